import java.util.ArrayDeque;
import java.util.ArrayList;
import java.util.Arrays;
import java.util.Deque;
import java.util.HashSet;
import java.util.List;
import java.util.NoSuchElementException;
import java.util.Set;
import java.util.TreeSet;

/** The document once more, sentence by sentence and without any care for speed, to compare the class with. */
final class Model {
    private static final class Event {
        int teacher;
        TreeSet<Integer> groups = new TreeSet<>();
        int needs;
        int length = 1;
        int place = -1;
        boolean fixed;
        int mark = -1;

        Event copy() {
            Event e = new Event();
            e.teacher = teacher;
            e.groups = new TreeSet<>(groups);
            e.needs = needs;
            e.length = length;
            e.place = place;
            e.fixed = fixed;
            e.mark = mark;
            return e;
        }

        int slot() {
            return place / 6;
        }

        int room() {
            return place % 6;
        }
    }

    private static final class State {
        int[] capacity = {30, 30, 30, 30, 30, 30};
        int[] features = new int[6];
        int[] size = {10, 10, 10, 10, 10, 10};
        int[] slots = {1023, 1023, 1023, 1023, 1023, 1023};
        int[] weight = {1, 1, 1};
        List<Event> events = new ArrayList<>();

        State copy() {
            State s = new State();
            s.capacity = capacity.clone();
            s.features = features.clone();
            s.size = size.clone();
            s.slots = slots.clone();
            s.weight = weight.clone();
            for (Event e : events) {
                s.events.add(e.copy());
            }
            return s;
        }
    }

    private State now = new State();
    private State saved;
    private final Deque<State> past = new ArrayDeque<>();
    private final StringBuilder buffer = new StringBuilder();
    private int error = -1;

    private void change(State before) {
        past.addLast(before);
        if (past.size() > 6) {
            past.removeFirst();
        }
    }

    private static void index(boolean good) {
        if (!good) {
            throw new IndexOutOfBoundsException();
        }
    }

    private static void argument(boolean good) {
        if (!good) {
            throw new IllegalArgumentException();
        }
    }

    private static void state(boolean good) {
        if (!good) {
            throw new IllegalStateException();
        }
    }

    private static boolean in(int value, int least, int most) {
        return least <= value && value <= most;
    }

    private Event get(int event) {
        index(in(event, 0, now.events.size() - 1));
        return now.events.get(event);
    }

    private int unplaceUnsuitable() {
        int n = 0;
        for (Event e : now.events) {
            if (e.place != -1 && in(obstacleOf(e, e.place), 1, 4)) {
                e.place = -1;
                e.fixed = false;
                n++;
            }
        }
        return n;
    }

    int setRoom(int room, int capacity, int features) {
        index(in(room, 0, 5));
        argument(in(capacity, 0, 99) && in(features, 0, 15));
        change(now.copy());
        now.capacity[room] = capacity;
        now.features[room] = features;
        return unplaceUnsuitable();
    }

    int setGroup(int group, int size) {
        index(in(group, 0, 5));
        argument(in(size, 0, 40));
        change(now.copy());
        now.size[group] = size;
        return unplaceUnsuitable();
    }

    int setTeacher(int teacher, int slots) {
        index(in(teacher, 0, 5));
        argument((slots & ~1023) == 0);
        change(now.copy());
        now.slots[teacher] = slots;
        return unplaceUnsuitable();
    }

    int setWeight(int what, int weight) {
        index(in(what, 0, 2));
        argument(in(weight, 0, 9));
        change(now.copy());
        int old = now.weight[what];
        now.weight[what] = weight;
        return old;
    }

    int setting(int what, int index) {
        argument(in(what, 0, 3));
        index(in(index, 0, 5));
        return List.of(now.capacity, now.features, now.size, now.slots).get(what)[index];
    }

    int append(int packed) {
        StringBuilder more = new StringBuilder();
        for (byte b : new byte[] {(byte) (packed >>> 24), (byte) (packed >>> 16), (byte) (packed >>> 8), (byte) packed}) {
            if (b != 0) {
                argument(in(b, 33, 126));
                more.append((char) b);
            }
        }
        state(buffer.length() + more.length() <= 40);
        buffer.append(more);
        return buffer.length();
    }

    /** Tries the grammar with each beginning of the text: the first character that no event can have there. */
    int addEvent() {
        String text = buffer.toString();
        buffer.setLength(0);
        error = errorIn(text);
        argument(error == -1);
        state(now.events.size() < 14);
        change(now.copy());
        Event e = new Event();
        e.teacher = text.charAt(0) - '0';
        int star = text.indexOf('*');
        if (star >= 0) {
            e.length = text.charAt(star + 1) - '0';
            text = text.substring(0, star);
        }
        int slash = text.indexOf('/');
        if (slash >= 0) {
            e.needs = Integer.parseInt(text.substring(slash + 1));
            text = text.substring(0, slash);
        }
        for (String group : text.substring(2).split(",")) {
            e.groups.add(Integer.parseInt(group));
        }
        now.events.add(e);
        return now.events.size() - 1;
    }

    private static int errorIn(String text) {
        // 0 teacher, 1 colon, 2 group, 3 behind a group, 4 features, 5 second digit, 6 behind features, 7 length, 8 end
        int part = 0;
        int last = -1;
        int first = -1;
        for (int i = 0; i < text.length(); i++) {
            char c = text.charAt(i);
            boolean digit = c >= '0' && c <= '9';
            if (part == 5 && digit) {
                if (10 * (text.charAt(first) - '0') + c - '0' > 15) {
                    return first;
                }
                part = 6;
            } else if (part == 0 && c >= '0' && c <= '5') {
                part = 1;
            } else if (part == 1 && c == ':') {
                part = 2;
            } else if (part == 2 && c >= '0' && c <= '5' && c > last) {
                last = c;
                part = 3;
            } else if (part == 3 && c == ',') {
                part = 2;
            } else if (part == 3 && c == '/') {
                part = 4;
            } else if (part == 4 && digit) {
                first = i;
                part = c == '0' ? 6 : 5;
            } else if ((part == 3 || part == 5 || part == 6) && c == '*') {
                part = 7;
            } else if (part == 7 && (c == '1' || c == '2')) {
                part = 8;
            } else {
                return i;
            }
        }
        return part == 3 || part == 5 || part == 6 || part == 8 ? -1 : text.length();
    }

    int errorPosition() {
        return error;
    }

    int removeEvent(int event) {
        get(event);
        change(now.copy());
        now.events.remove(event);
        return now.events.size();
    }

    int split(int event, int groups) {
        Event e = get(event);
        Set<Integer> leaving = new HashSet<>();
        for (int bit = 0; bit < 32; bit++) {
            if ((groups >>> bit & 1) != 0) {
                leaving.add(bit);
            }
        }
        argument(!leaving.isEmpty() && e.groups.containsAll(leaving) && leaving.size() < e.groups.size());
        state(now.events.size() < 14);
        change(now.copy());
        e.groups.removeAll(leaving);
        Event other = new Event();
        other.teacher = e.teacher;
        other.needs = e.needs;
        other.length = e.length;
        other.groups.addAll(leaving);
        now.events.add(other);
        return now.events.size() - 1;
    }

    private static int bits(Iterable<Integer> set) {
        int bits = 0;
        for (int element : set) {
            bits |= 1 << element;
        }
        return bits;
    }

    private int size(Event e) {
        return e.groups.stream().mapToInt(g -> now.size[g]).sum();
    }

    int event(int event, int what) {
        Event e = get(event);
        argument(in(what, 0, 6));
        return new int[] {e.teacher, bits(e.groups), e.needs, e.length, size(e), e.place, e.fixed ? 1 : 0}[what];
    }

    int describe(int event, int index) {
        Event e = get(event);
        StringBuilder text = new StringBuilder().append(e.teacher).append(':');
        text.append(String.join(",", e.groups.stream().map(g -> "" + g).toList()));
        text.append(e.needs == 0 ? "" : "/" + e.needs).append(e.length == 2 ? "*2" : "");
        if (index == -1) {
            return text.length();
        }
        index(in(index, 0, text.length() - 1));
        return text.charAt(index);
    }

    private static Set<Integer> slots(Event e, int place) {
        Set<Integer> slots = new TreeSet<>();
        for (int i = 0; place >= 0 && i < e.length; i++) {
            if ((place / 6 + i) / 5 == place / 6 / 5) {
                slots.add(place / 6 + i);
            }
        }
        return slots;
    }

    private static boolean common(Set<Integer> a, Set<Integer> b) {
        return a.stream().anyMatch(b::contains);
    }

    private List<Event> sharing(Event e, int place) {
        List<Event> list = new ArrayList<>();
        for (Event other : now.events) {
            if (other != e && other.place != -1 && common(slots(other, other.place), slots(e, place))) {
                list.add(other);
            }
        }
        return list;
    }

    private int obstacleOf(Event e, int place) {
        int room = place % 6;
        List<Event> others = sharing(e, place);
        if (e.length == 2 && (place / 6 == 4 || place / 6 == 9)) {
            return 1;
        }
        if (slots(e, place).stream().anyMatch(s -> (now.slots[e.teacher] >> s & 1) == 0)) {
            return 2;
        }
        if (now.capacity[room] < size(e)) {
            return 3;
        }
        if ((now.features[room] & e.needs) != e.needs) {
            return 4;
        }
        if (others.stream().anyMatch(o -> o.room() == room)) {
            return 5;
        }
        if (others.stream().anyMatch(o -> o.teacher == e.teacher)) {
            return 6;
        }
        return others.stream().anyMatch(o -> common(o.groups, e.groups)) ? 7 : 0;
    }

    int place(int event, int place) {
        Event e = get(event);
        index(in(place, 0, 59));
        if (e.fixed) {
            throw new UnsupportedOperationException();
        }
        state(obstacleOf(e, place) == 0);
        change(now.copy());
        int old = e.place;
        e.place = place;
        return old;
    }

    int unplace(int event) {
        Event e = get(event);
        state(e.place != -1);
        change(now.copy());
        int old = e.place;
        e.place = -1;
        e.fixed = false;
        return old;
    }

    boolean fix(int event, boolean fixed) {
        Event e = get(event);
        state(e.place != -1);
        change(now.copy());
        boolean old = e.fixed;
        e.fixed = fixed;
        return old;
    }

    int obstacle(int event, int place) {
        Event e = get(event);
        index(in(place, 0, 59));
        return obstacleOf(e, place);
    }

    private List<Integer> placesWith(Event e, int least, int most) {
        List<Integer> list = new ArrayList<>();
        for (int place = 0; place < 60; place++) {
            if (in(obstacleOf(e, place), least, most)) {
                list.add(place);
            }
        }
        return list;
    }

    int places(int event, int obstacle) {
        Event e = get(event);
        argument(in(obstacle, 0, 7));
        return placesWith(e, obstacle, obstacle).size();
    }

    int free(int event, int index) {
        List<Integer> list = placesWith(get(event), 0, 0);
        if (!in(index, 0, list.size() - 1)) {
            throw new NoSuchElementException();
        }
        return list.get(index);
    }

    private List<Event> hinderingOf(Event e, int place) {
        return sharing(e, place).stream()
            .filter(o -> o.room() == place % 6 || o.teacher == e.teacher || common(o.groups, e.groups)).toList();
    }

    private int numbers(List<Event> list) {
        return bits(list.stream().map(e -> now.events.indexOf(e)).toList());
    }

    int hindering(int event, int place) {
        Event e = get(event);
        index(in(place, 0, 59));
        return numbers(hinderingOf(e, place));
    }

    int at(int slot, int room) {
        index(in(slot, 0, 9) && in(room, 0, 5));
        for (Event e : now.events) {
            if (e.room() == room && slots(e, e.place).contains(slot)) {
                return now.events.indexOf(e);
            }
        }
        throw new NoSuchElementException();
    }

    int taken(int what, int index) {
        argument(in(what, 0, 2));
        index(in(index, 0, 5));
        Set<Integer> slots = new TreeSet<>();
        for (Event e : now.events) {
            boolean its = what == 0 ? e.teacher == index : what == 1 ? e.groups.contains(index) : e.room() == index;
            if (its) {
                slots.addAll(slots(e, e.place));
            }
        }
        return bits(slots);
    }

    private int insertOf(Event e) {
        for (int m = 0; m <= 2; m++) {
            for (int place : placesWith(e, 0, 7)) {
                if (in(obstacleOf(e, place), 1, 4)) {
                    continue;
                }
                List<Event> list = hinderingOf(e, place);
                if (list.size() != m || list.stream().anyMatch(o -> o.fixed)) {
                    continue;
                }
                int[] old = list.stream().mapToInt(o -> o.place).toArray();
                list.forEach(o -> o.place = -1);
                e.place = place;
                if (anew(list, old, 0)) {
                    return m;
                }
                e.place = -1;
                for (int i = 0; i < m; i++) {
                    list.get(i).place = old[i];
                }
            }
        }
        return -1;
    }

    private boolean anew(List<Event> list, int[] old, int i) {
        if (i == list.size()) {
            return true;
        }
        Event e = list.get(i);
        for (int place : placesWith(e, 0, 0)) {
            if (place != old[i]) {
                e.place = place;
                if (anew(list, old, i + 1)) {
                    return true;
                }
                e.place = -1;
            }
        }
        return false;
    }

    int insert(int event) {
        Event e = get(event);
        state(e.place == -1);
        State before = now.copy();
        int moves = insertOf(e);
        if (moves == -1) {
            throw new UnsupportedOperationException();
        }
        change(before);
        return moves;
    }

    int build() {
        change(now.copy());
        List<Event> list = new ArrayList<>(now.events.stream().filter(e -> e.place == -1).toList());
        List<int[]> keys = new ArrayList<>();
        for (Event e : list) {
            int suitable = 60 - placesWith(e, 1, 4).size();
            keys.add(new int[] {suitable, -e.groups.size(), now.events.indexOf(e)});
        }
        keys.sort(Arrays::compare);
        for (int[] key : keys) {
            insertOf(now.events.get(key[2]));
        }
        return (int) now.events.stream().filter(e -> e.place == -1).count();
    }

    private List<Event> chainOf(Event e, int slot) {
        TreeSet<Integer> both = new TreeSet<>(Arrays.asList(e.slot(), slot));
        Set<Event> chain = new HashSet<>();
        Deque<Event> open = new ArrayDeque<>();
        open.add(e);
        while (!open.isEmpty()) {
            Event member = open.remove();
            if (chain.add(member)) {
                for (Event o : now.events) {
                    if (common(slots(o, o.place), both) && (o.teacher == member.teacher || common(o.groups, member.groups))) {
                        open.add(o);
                    }
                }
            }
        }
        return now.events.stream().filter(chain::contains).toList();
    }

    int chain(int event, int slot) {
        Event e = get(event);
        index(in(slot, 0, 9));
        state(e.place != -1 && e.length == 1 && e.slot() != slot);
        return numbers(chainOf(e, slot));
    }

    int exchange(int event, int slot) {
        chain(event, slot);
        Event e = get(event);
        int own = e.slot();
        State before = now.copy();
        List<Event> chain = chainOf(e, slot);
        for (Event member : chain) {
            int other = member.slot() == own ? slot : own;
            if (member.length != 1 || member.fixed || (now.slots[member.teacher] >> other & 1) == 0) {
                throw new UnsupportedOperationException();
            }
        }
        List<Event> order = new ArrayList<>(chain.stream().filter(c -> c.slot() == slot).toList());
        order.addAll(chain.stream().filter(c -> c.slot() == own).toList());
        int[] slots = order.stream().mapToInt(c -> c.slot() == own ? slot : own).toArray();
        order.forEach(c -> c.place = -1);
        if (!rooms(order, slots, 0)) {
            now = before;
            throw new UnsupportedOperationException();
        }
        change(before);
        return chain.size();
    }

    private boolean rooms(List<Event> order, int[] slots, int i) {
        if (i == order.size()) {
            return true;
        }
        Event e = order.get(i);
        for (int room = 0; room < 6; room++) {
            int place = 6 * slots[i] + room;
            if (!in(obstacleOf(e, place), 3, 5)) {
                e.place = place;
                if (rooms(order, slots, i + 1)) {
                    return true;
                }
                e.place = -1;
            }
        }
        return false;
    }

    int improve(int steps) {
        argument(in(steps, 1, 5));
        change(now.copy());
        for (int made = 0; made < steps; made++) {
            int best = cost(4);
            Event event = null;
            int where = -1;
            for (Event e : now.events) {
                if (e.place == -1 || e.fixed) {
                    continue;
                }
                for (int place : placesWith(e, 0, 0)) {
                    int then = costWith(e, place);
                    if (then < best) {
                        best = then;
                        event = e;
                        where = place;
                    }
                }
            }
            if (event == null) {
                return made;
            }
            event.place = where;
        }
        return steps;
    }

    private int gaps() {
        int gaps = 0;
        for (int group = 0; group < 6; group++) {
            TreeSet<Integer> all = new TreeSet<>();
            for (Event e : now.events) {
                if (e.groups.contains(group)) {
                    all.addAll(slots(e, e.place));
                }
            }
            for (int day = 0; day < 10; day += 5) {
                Set<Integer> its = all.subSet(day, day + 5);
                if (!its.isEmpty()) {
                    int first = all.ceiling(day);
                    int last = all.floor(day + 4);
                    gaps += last - first + 1 - its.size();
                }
            }
        }
        return gaps;
    }

    int cost(int what) {
        argument(in(what, 0, 4));
        List<Event> placed = now.events.stream().filter(e -> e.place != -1).toList();
        int late = (int) placed.stream().filter(e -> common(slots(e, e.place), Set.of(4, 9))).count();
        int slack = placed.stream().mapToInt(e -> (now.capacity[e.room()] - size(e)) / 10).sum();
        int unplaced = now.events.size() - placed.size();
        int cost = now.weight[0] * gaps() + now.weight[1] * late + now.weight[2] * slack + 100 * unplaced;
        return new int[] {gaps(), late, slack, unplaced, cost}[what];
    }

    private int costWith(Event e, int place) {
        int old = e.place;
        e.place = place;
        int cost = cost(4);
        e.place = old;
        return cost;
    }

    int costAt(int event, int place) {
        Event e = get(event);
        index(in(place, 0, 59));
        state(obstacleOf(e, place) == 0);
        return costWith(e, place);
    }

    int mark() {
        change(now.copy());
        now.events.forEach(e -> e.mark = e.place);
        return count(1);
    }

    int changed() {
        return numbers(now.events.stream().filter(e -> e.mark != e.place).toList());
    }

    int marked(int event) {
        return get(event).mark;
    }

    int count(int what) {
        argument(in(what, 0, 4));
        int placed = (int) now.events.stream().filter(e -> e.place != -1).count();
        int fixed = (int) now.events.stream().filter(e -> e.fixed).count();
        return new int[] {now.events.size(), placed, fixed, buffer.length(), past.size()}[what];
    }

    int undo() {
        state(!past.isEmpty());
        now = past.removeLast();
        return past.size();
    }

    int save() {
        saved = now.copy();
        return now.events.size();
    }

    int restore() {
        state(saved != null);
        change(now.copy());
        now = saved.copy();
        return now.events.size();
    }
}
