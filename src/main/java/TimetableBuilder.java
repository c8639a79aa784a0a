import java.util.Arrays;
import java.util.NoSuchElementException;

/** A builder of timetables; ../shared/DOC.md says, promise by promise, what each call does. */
public final class TimetableBuilder {
    private static final int DAY = 5;
    private static final int SLOTS = 10;
    private static final int ROOMS = 6;
    private static final int PLACES = SLOTS * ROOMS;
    private static final int GROUPS = 6;
    private static final int TEACHERS = 6;
    private static final int WEIGHTS = 3;
    private static final int EVENTS = 14;
    private static final int SIGNS = 40;
    private static final int UNDOS = 6;

    private static final int MOST_CAPACITY = 99;
    private static final int MOST_FEATURES = 15;
    private static final int MOST_SIZE = 40;
    private static final int MOST_WEIGHT = 9;
    private static final int MOST_MOVES = 2;
    private static final int MOST_STEPS = 5;

    private static final int ALL_SLOTS = (1 << SLOTS) - 1;
    private static final int ALL_ROOMS = (1 << ROOMS) - 1;
    private static final int ONE_DAY = (1 << DAY) - 1;
    private static final int LAST_SLOTS = 1 << DAY - 1 | 1 << SLOTS - 1;

    private static final int NOWHERE = -1;
    private static final int NONE = -1;

    private static final int NO_OBSTACLE = 0;
    private static final int BEYOND_DAY = 1;
    private static final int TEACHER_AWAY = 2;
    private static final int ROOM_SMALL = 3;
    private static final int ROOM_LACKS = 4;
    private static final int ROOM_TAKEN = 5;
    private static final int TEACHER_TAKEN = 6;
    private static final int GROUP_TAKEN = 7;

    private static final String NO_SUCH_INDEX = "no such index";
    private static final String OUT_OF_RANGE = "out of range";

    private final Table table;
    private final Table saved;
    private final Planner planner;
    private final History history;
    private final EventText text;
    private boolean hasSaved;

    public TimetableBuilder() {
        table = new Table();
        saved = new Table();
        planner = new Planner(table);
        history = new History();
        text = new EventText();
    }

    // Rooms, groups, teachers, weights.

    public int setRoom(int room, int capacity, int features)
            throws IndexOutOfBoundsException, IllegalArgumentException {
        requireIndex(room, ROOMS);
        requireRange(capacity, 0, MOST_CAPACITY);
        requireRange(features, 0, MOST_FEATURES);
        history.keep(table);
        table.capacities[room] = capacity;
        table.features[room] = features;
        return table.unplaceUnsuitable();
    }

    public int setGroup(int group, int size) throws IndexOutOfBoundsException, IllegalArgumentException {
        requireIndex(group, GROUPS);
        requireRange(size, 0, MOST_SIZE);
        history.keep(table);
        table.sizes[group] = size;
        return table.unplaceUnsuitable();
    }

    public int setTeacher(int teacher, int slots) throws IndexOutOfBoundsException, IllegalArgumentException {
        requireIndex(teacher, TEACHERS);
        requireRange(slots, 0, ALL_SLOTS);
        history.keep(table);
        table.available[teacher] = slots;
        return table.unplaceUnsuitable();
    }

    public int setWeight(int what, int weight) throws IndexOutOfBoundsException, IllegalArgumentException {
        requireIndex(what, WEIGHTS);
        requireRange(weight, 0, MOST_WEIGHT);
        history.keep(table);
        int previous = table.weights[what];
        table.weights[what] = weight;
        return previous;
    }

    public int setting(int what, int index) throws IllegalArgumentException, IndexOutOfBoundsException {
        requireRange(what, 0, 3);
        // The document has as many rooms as groups and as teachers, but the bound of each row is its own.
        switch (what) {
            case 0:
                requireIndex(index, ROOMS);
                return table.capacities[index];
            case 1:
                requireIndex(index, ROOMS);
                return table.features[index];
            case 2:
                requireIndex(index, GROUPS);
                return table.sizes[index];
            default:
                requireIndex(index, TEACHERS);
                return table.available[index];
        }
    }

    // Events.

    public int append(int packed) throws IllegalArgumentException, IllegalStateException {
        if (!EventText.isText(packed)) {
            throw new IllegalArgumentException("no such character");
        }
        if (!text.hasRoomFor(packed)) {
            throw new IllegalStateException("the buffer is full");
        }
        return text.add(packed);
    }

    public int addEvent() throws IllegalArgumentException, IllegalStateException {
        if (!text.readEvent()) {
            throw new IllegalArgumentException("an error in the text");
        }
        requireRoomForEvent();
        history.keep(table);
        return table.newEvent(text.teacher, text.groups, text.needs, text.length);
    }

    public int errorPosition() {
        return text.errorAt;
    }

    public int removeEvent(int event) throws IndexOutOfBoundsException {
        requireEvent(event);
        history.keep(table);
        table.dropEvent(event);
        return table.count;
    }

    public int split(int event, int groups)
            throws IndexOutOfBoundsException, IllegalArgumentException, IllegalStateException {
        requireEvent(event);
        int own = table.groups[event];
        if (groups == 0 || groups == own || (groups & ~own) != 0) {
            throw new IllegalArgumentException("not a part of the groups");
        }
        requireRoomForEvent();
        history.keep(table);
        table.groups[event] = own & ~groups;
        return table.newEvent(table.teachers[event], groups, table.needs[event], table.lengths[event]);
    }

    public int event(int event, int what) throws IndexOutOfBoundsException, IllegalArgumentException {
        requireEvent(event);
        switch (what) {
            case 0:
                return table.teachers[event];
            case 1:
                return table.groups[event];
            case 2:
                return table.needs[event];
            case 3:
                return table.lengths[event];
            case 4:
                return table.sizeOf(event);
            case 5:
                return table.places[event];
            case 6:
                return table.fixed[event] ? 1 : 0;
            default:
                throw new IllegalArgumentException(OUT_OF_RANGE);
        }
    }

    public int describe(int event, int index) throws IndexOutOfBoundsException {
        requireEvent(event);
        StringBuilder description = table.textOf(event);
        if (index == -1) {
            return description.length();
        }
        requireIndex(index, description.length());
        return description.charAt(index);
    }

    // Places.

    public int place(int event, int place)
            throws IndexOutOfBoundsException, UnsupportedOperationException, IllegalStateException {
        requireEvent(event);
        requireIndex(place, PLACES);
        if (table.fixed[event]) {
            throw new UnsupportedOperationException("the event is fixed");
        }
        requireFree(event, place);
        history.keep(table);
        int previous = table.places[event];
        table.moveTo(event, place);
        return previous;
    }

    public int unplace(int event) throws IndexOutOfBoundsException, IllegalStateException {
        requireEvent(event);
        requirePlaced(event);
        history.keep(table);
        int previous = table.places[event];
        table.release(event);
        return previous;
    }

    public boolean fix(int event, boolean fixed) throws IndexOutOfBoundsException, IllegalStateException {
        requireEvent(event);
        requirePlaced(event);
        history.keep(table);
        boolean previous = table.fixed[event];
        table.fixed[event] = fixed;
        return previous;
    }

    public int obstacle(int event, int place) throws IndexOutOfBoundsException {
        requireEvent(event);
        requireIndex(place, PLACES);
        return table.obstacleAt(event, place);
    }

    public int places(int event, int obstacle) throws IndexOutOfBoundsException, IllegalArgumentException {
        requireEvent(event);
        requireRange(obstacle, NO_OBSTACLE, GROUP_TAKEN);
        int number = 0;
        for (int place = 0; place < PLACES; place++) {
            if (table.obstacleAt(event, place) == obstacle) {
                number++;
            }
        }
        return number;
    }

    public int free(int event, int index) throws IndexOutOfBoundsException, NoSuchElementException {
        requireEvent(event);
        int found = index < 0 ? NOWHERE : table.freePlace(event, index);
        if (found == NOWHERE) {
            throw new NoSuchElementException(NO_SUCH_INDEX);
        }
        return found;
    }

    public int hindering(int event, int place) throws IndexOutOfBoundsException {
        requireEvent(event);
        requireIndex(place, PLACES);
        return table.hinderingAt(event, place);
    }

    public int at(int slot, int room) throws IndexOutOfBoundsException, NoSuchElementException {
        requireIndex(slot, SLOTS);
        requireIndex(room, ROOMS);
        int found = table.eventIn(slot, room);
        if (found == NONE) {
            throw new NoSuchElementException("no event there");
        }
        return found;
    }

    public int taken(int what, int index) throws IllegalArgumentException, IndexOutOfBoundsException {
        requireRange(what, 0, 2);
        switch (what) {
            case 0:
                requireIndex(index, TEACHERS);
                return table.slotsOfTeacher(index);
            case 1:
                requireIndex(index, GROUPS);
                return table.slotsOfGroup(index);
            default:
                requireIndex(index, ROOMS);
                return table.slotsOfRoom(index);
        }
    }

    // Building.

    public int insert(int event)
            throws IndexOutOfBoundsException, IllegalStateException, UnsupportedOperationException {
        requireEvent(event);
        if (table.places[event] != NOWHERE) {
            throw new IllegalStateException("the event is placed");
        }
        // Only an insertion that succeeds is a change, and before it is tried that is not known.
        history.note(table);
        int moves = planner.tryInsert(event);
        if (moves == NONE) {
            throw new UnsupportedOperationException("the event cannot be inserted");
        }
        history.keepNoted();
        return moves;
    }

    public int build() {
        history.keep(table);
        planner.rankWaiting();
        for (int turn = 0; turn < EVENTS; turn++) {
            int event = planner.nextByRank();
            if (event != NONE) {
                planner.tryInsert(event);
            }
        }
        return table.unplaced();
    }

    public int exchange(int event, int slot)
            throws IndexOutOfBoundsException, IllegalStateException, UnsupportedOperationException {
        int members = chain(event, slot);
        int own = table.slotOf(event);
        if (!planner.findRooms(members, own, slot)) {
            throw new UnsupportedOperationException("the chain cannot be exchanged");
        }
        history.keep(table);
        planner.swapSlots(members, own, slot);
        return Integer.bitCount(members);
    }

    public int chain(int event, int slot) throws IndexOutOfBoundsException, IllegalStateException {
        requireEvent(event);
        requireIndex(slot, SLOTS);
        requirePlaced(event);
        if (table.lengths[event] == 2 || table.slotOf(event) == slot) {
            throw new IllegalStateException("the event has no chain for this slot");
        }
        return planner.chainOf(event, slot);
    }

    public int improve(int steps) throws IllegalArgumentException {
        requireRange(steps, 1, MOST_STEPS);
        history.keep(table);
        for (int made = 0; made < steps; made++) {
            if (!planner.makeStep()) {
                return made;
            }
        }
        return steps;
    }

    public int cost(int what) throws IllegalArgumentException {
        switch (what) {
            case 0:
                return table.gaps();
            case 1:
                return table.lateOnes();
            case 2:
                return table.slack();
            case 3:
                return table.unplaced();
            case 4:
                return table.totalCost();
            default:
                throw new IllegalArgumentException(OUT_OF_RANGE);
        }
    }

    public int costAt(int event, int place) throws IndexOutOfBoundsException, IllegalStateException {
        requireEvent(event);
        requireIndex(place, PLACES);
        requireFree(event, place);
        return table.costIf(event, place);
    }

    // The marked table.

    public int mark() {
        history.keep(table);
        System.arraycopy(table.places, 0, table.marks, 0, EVENTS);
        return table.placedOnes();
    }

    public int changed() {
        int set = 0;
        for (int event = 0; event < EVENTS; event++) {
            if (table.places[event] != table.marks[event]) {
                set |= 1 << event;
            }
        }
        return set;
    }

    public int marked(int event) throws IndexOutOfBoundsException {
        requireEvent(event);
        return table.marks[event];
    }

    // Counts, undo, snapshots.

    public int count(int what) throws IllegalArgumentException {
        switch (what) {
            case 0:
                return table.count;
            case 1:
                return table.placedOnes();
            case 2:
                return table.fixedOnes();
            case 3:
                return text.used;
            case 4:
                return history.changes;
            default:
                throw new IllegalArgumentException(OUT_OF_RANGE);
        }
    }

    public int undo() throws IllegalStateException {
        if (history.changes == 0) {
            throw new IllegalStateException("no change can be taken back");
        }
        history.takeBack(table);
        return history.changes;
    }

    public int save() {
        saved.copyFrom(table);
        hasSaved = true;
        return table.count;
    }

    public int restore() throws IllegalStateException {
        if (!hasSaved) {
            throw new IllegalStateException("nothing was saved");
        }
        history.keep(table);
        table.copyFrom(saved);
        return table.count;
    }

    private static void requireIndex(int index, int bound) {
        if (index < 0 || index >= bound) {
            throw new IndexOutOfBoundsException(NO_SUCH_INDEX);
        }
    }

    private static void requireRange(int value, int least, int most) {
        if (value < least || value > most) {
            throw new IllegalArgumentException(OUT_OF_RANGE);
        }
    }

    private void requireEvent(int event) {
        if (!table.hasEvent(event)) {
            throw new IndexOutOfBoundsException("no such event");
        }
    }

    private void requireRoomForEvent() {
        if (table.count >= EVENTS) {
            throw new IllegalStateException("no more events");
        }
    }

    private void requirePlaced(int event) {
        if (table.places[event] == NOWHERE) {
            throw new IllegalStateException("the event is not placed");
        }
    }

    private void requireFree(int event, int place) {
        if (table.obstacleAt(event, place) != NO_OBSTACLE) {
            throw new IllegalStateException("the place has an obstacle");
        }
    }

    private static boolean contains(int set, int element) {
        return (set >> element & 1) != 0;
    }

    /** All that undo and restore bring back: settings, events, their places and the marked table. */
    private static final class Table {
        final int[] capacities = new int[ROOMS];
        final int[] features = new int[ROOMS];
        final int[] sizes = new int[GROUPS];
        final int[] available = new int[TEACHERS];
        final int[] weights = new int[WEIGHTS];
        // Behind the last event the rows hold what an event that does not exist would have: no place, no mark.
        final int[] teachers = new int[EVENTS];
        final int[] groups = new int[EVENTS];
        final int[] needs = new int[EVENTS];
        final int[] lengths = new int[EVENTS];
        final int[] places = new int[EVENTS];
        final int[] slots = new int[EVENTS];
        final int[] marks = new int[EVENTS];
        final boolean[] fixed = new boolean[EVENTS];
        int count;

        Table() {
            Arrays.fill(capacities, 30);
            Arrays.fill(sizes, 10);
            Arrays.fill(available, ALL_SLOTS);
            Arrays.fill(weights, 1);
            Arrays.fill(places, NOWHERE);
            Arrays.fill(marks, NOWHERE);
        }

        void copyFrom(Table other) {
            if (other == null) {
                return;
            }
            System.arraycopy(other.capacities, 0, capacities, 0, ROOMS);
            System.arraycopy(other.features, 0, features, 0, ROOMS);
            System.arraycopy(other.sizes, 0, sizes, 0, GROUPS);
            System.arraycopy(other.available, 0, available, 0, TEACHERS);
            System.arraycopy(other.weights, 0, weights, 0, WEIGHTS);
            System.arraycopy(other.teachers, 0, teachers, 0, EVENTS);
            System.arraycopy(other.groups, 0, groups, 0, EVENTS);
            System.arraycopy(other.needs, 0, needs, 0, EVENTS);
            System.arraycopy(other.lengths, 0, lengths, 0, EVENTS);
            System.arraycopy(other.places, 0, places, 0, EVENTS);
            System.arraycopy(other.slots, 0, slots, 0, EVENTS);
            System.arraycopy(other.marks, 0, marks, 0, EVENTS);
            System.arraycopy(other.fixed, 0, fixed, 0, EVENTS);
            count = other.count;
        }

        boolean hasEvent(int event) {
            return event >= 0 && event < EVENTS && event < count;
        }

        int newEvent(int teacher, int groupSet, int needed, int length) {
            int event = count;
            if (event < 0 || event >= EVENTS) {
                return NONE;
            }
            teachers[event] = teacher;
            groups[event] = groupSet;
            needs[event] = needed;
            lengths[event] = length;
            count = event + 1;
            return event;
        }

        void dropEvent(int event) {
            closeUp(teachers, event, 0);
            closeUp(groups, event, 0);
            closeUp(needs, event, 0);
            closeUp(lengths, event, 0);
            closeUp(places, event, NOWHERE);
            closeUp(slots, event, 0);
            closeUp(marks, event, NOWHERE);
            for (int later = event; later < EVENTS - 1; later++) {
                fixed[later] = fixed[later + 1];
            }
            fixed[EVENTS - 1] = false;
            count--;
        }

        private static void closeUp(int[] row, int event, int last) {
            for (int later = event; later < EVENTS - 1; later++) {
                row[later] = row[later + 1];
            }
            row[EVENTS - 1] = last;
        }

        void moveTo(int event, int place) {
            places[event] = place;
            slots[event] = place == NOWHERE ? 0 : slotsAt(event, place);
        }

        void release(int event) {
            moveTo(event, NOWHERE);
            fixed[event] = false;
        }

        int unplaceUnsuitable() {
            int number = 0;
            for (int event = 0; event < EVENTS; event++) {
                int place = places[event];
                if (place != NOWHERE && unsuitableAt(event, place) != NO_OBSTACLE) {
                    release(event);
                    number++;
                }
            }
            return number;
        }

        int slotOf(int event) {
            return places[event] / ROOMS;
        }

        int sizeOf(int event) {
            int size = 0;
            for (int group = 0; group < GROUPS; group++) {
                size += (groups[event] >> group & 1) * sizes[group];
            }
            return size;
        }

        boolean isAvailable(int event, int wanted) {
            int teacher = teachers[event];
            return teacher >= 0 && teacher < TEACHERS && (wanted & ~available[teacher]) == 0;
        }

        boolean hasNeeds(int event, int room) {
            return (needs[event] & ~features[room]) == 0;
        }

        /** A slot beyond the last one of the day is left out, as hindering wants it. */
        int slotsAt(int event, int place) {
            int first = 1 << place / ROOMS;
            boolean goesOn = lengths[event] == 2 && (first & LAST_SLOTS) == 0;
            return goesOn ? first | first << 1 : first;
        }

        int obstacleAt(int event, int place) {
            int reason = unsuitableAt(event, place);
            if (reason != NO_OBSTACLE) {
                return reason;
            }
            int wanted = slotsAt(event, place);
            for (int other = 0; other < EVENTS; other++) {
                int clash = clashWith(other, event, place % ROOMS, wanted);
                if (clash != NO_OBSTACLE && (reason == NO_OBSTACLE || clash < reason)) {
                    reason = clash;
                }
            }
            return reason;
        }

        int unsuitableAt(int event, int place) {
            int wanted = slotsAt(event, place);
            int room = place % ROOMS;
            if (Integer.bitCount(wanted) < lengths[event]) {
                return BEYOND_DAY;
            }
            if (!isAvailable(event, wanted)) {
                return TEACHER_AWAY;
            }
            if (capacities[room] < sizeOf(event)) {
                return ROOM_SMALL;
            }
            return hasNeeds(event, room) ? NO_OBSTACLE : ROOM_LACKS;
        }

        /** The obstacle that another event alone would be. */
        private int clashWith(int other, int event, int room, int wanted) {
            if (other == event || (slots[other] & wanted) == 0) {
                return NO_OBSTACLE;
            }
            if (places[other] % ROOMS == room) {
                return ROOM_TAKEN;
            }
            if (teachers[other] == teachers[event]) {
                return TEACHER_TAKEN;
            }
            return (groups[other] & groups[event]) != 0 ? GROUP_TAKEN : NO_OBSTACLE;
        }

        int hinderingAt(int event, int place) {
            int set = 0;
            int wanted = slotsAt(event, place);
            for (int other = 0; other < EVENTS; other++) {
                if (clashWith(other, event, place % ROOMS, wanted) != NO_OBSTACLE) {
                    set |= 1 << other;
                }
            }
            return set;
        }

        int freePlace(int event, int index) {
            int before = 0;
            for (int place = 0; place < PLACES; place++) {
                if (obstacleAt(event, place) == NO_OBSTACLE) {
                    if (before == index) {
                        return place;
                    }
                    before++;
                }
            }
            return NOWHERE;
        }

        int suitablePlaces(int event) {
            int number = 0;
            for (int place = 0; place < PLACES; place++) {
                if (unsuitableAt(event, place) == NO_OBSTACLE) {
                    number++;
                }
            }
            return number;
        }

        int eventIn(int slot, int room) {
            for (int event = 0; event < EVENTS; event++) {
                if (contains(slots[event], slot) && places[event] % ROOMS == room) {
                    return event;
                }
            }
            return NONE;
        }

        int slotsOfTeacher(int teacher) {
            int set = 0;
            for (int event = 0; event < EVENTS; event++) {
                if (teachers[event] == teacher) {
                    set |= slots[event];
                }
            }
            return set;
        }

        int slotsOfGroup(int group) {
            int set = 0;
            for (int event = 0; event < EVENTS; event++) {
                if (contains(groups[event], group)) {
                    set |= slots[event];
                }
            }
            return set;
        }

        int slotsOfRoom(int room) {
            int set = 0;
            for (int event = 0; event < EVENTS; event++) {
                if (places[event] % ROOMS == room) {
                    set |= slots[event];
                }
            }
            return set;
        }

        int gaps() {
            int number = 0;
            for (int group = 0; group < GROUPS; group++) {
                int set = slotsOfGroup(group);
                number += gapsOfDay(set & ONE_DAY) + gapsOfDay(set >> DAY & ONE_DAY);
            }
            return number;
        }

        /** A gap is a slot that is not taken, with one before it and one behind it that are. */
        private static int gapsOfDay(int set) {
            int number = 0;
            for (int slot = 1; slot < DAY - 1; slot++) {
                int before = set & (1 << slot) - 1;
                int behind = set >> slot + 1;
                if (!contains(set, slot) && before != 0 && behind != 0) {
                    number++;
                }
            }
            return number;
        }

        int lateOnes() {
            int number = 0;
            for (int event = 0; event < EVENTS; event++) {
                if ((slots[event] & LAST_SLOTS) != 0) {
                    number++;
                }
            }
            return number;
        }

        int slack() {
            int sum = 0;
            for (int event = 0; event < EVENTS; event++) {
                int place = places[event];
                if (place >= 0) {
                    sum += (capacities[place % ROOMS] - sizeOf(event)) / 10;
                }
            }
            return sum;
        }

        int placedOnes() {
            int number = 0;
            for (int event = 0; event < EVENTS; event++) {
                if (places[event] != NOWHERE) {
                    number++;
                }
            }
            return number;
        }

        int fixedOnes() {
            int number = 0;
            for (int event = 0; event < EVENTS; event++) {
                if (fixed[event]) {
                    number++;
                }
            }
            return number;
        }

        int unplaced() {
            return count - placedOnes();
        }

        int totalCost() {
            return weights[0] * gaps() + weights[1] * lateOnes() + weights[2] * slack() + 100 * unplaced();
        }

        int costIf(int event, int place) {
            int previous = places[event];
            moveTo(event, place);
            int cost = totalCost();
            moveTo(event, previous);
            return cost;
        }

        StringBuilder textOf(int event) {
            StringBuilder written = new StringBuilder();
            written.append(teachers[event]);
            char sign = ':';
            for (int group = 0; group < GROUPS; group++) {
                if (contains(groups[event], group)) {
                    written.append(sign).append(group);
                    sign = ',';
                }
            }
            if (needs[event] != 0) {
                written.append('/').append(needs[event]);
            }
            if (lengths[event] == 2) {
                written.append('*').append(2);
            }
            return written;
        }
    }

    /** Inserts, exchanges and improves in one table; the rows are made once and used again by each call. */
    private static final class Planner {
        private final Table table;
        private final int[] before = new int[EVENTS];
        private final int[] rooms = new int[EVENTS];
        private final int[] ranks = new int[EVENTS];
        private int waiting;

        Planner(Table table) {
            this.table = table;
        }

        /** Returns how many events were moved for it, or NONE, and then nothing is different. */
        int tryInsert(int event) {
            for (int moves = 0; moves <= MOST_MOVES; moves++) {
                for (int place = 0; place < PLACES; place++) {
                    if (insertAt(event, place, moves)) {
                        return moves;
                    }
                }
            }
            return NONE;
        }

        private boolean insertAt(int event, int place, int moves) {
            if (table.unsuitableAt(event, place) != NO_OBSTACLE) {
                return false;
            }
            int aside = table.hinderingAt(event, place);
            if (Integer.bitCount(aside) != moves || hasFixed(aside)) {
                return false;
            }
            System.arraycopy(table.places, 0, before, 0, EVENTS);
            lift(aside);
            table.moveTo(event, place);
            if (canAllMove(aside) && placeAnew(table, before, aside, 0)) {
                return true;
            }
            table.moveTo(event, NOWHERE);
            putBack(aside);
            return false;
        }

        private boolean hasFixed(int set) {
            for (int event = 0; event < EVENTS; event++) {
                if (contains(set, event) && table.fixed[event]) {
                    return true;
                }
            }
            return false;
        }

        private void lift(int set) {
            for (int event = 0; event < EVENTS; event++) {
                if (contains(set, event)) {
                    table.moveTo(event, NOWHERE);
                }
            }
        }

        private void putBack(int set) {
            for (int event = 0; event < EVENTS; event++) {
                if (contains(set, event)) {
                    table.moveTo(event, before[event]);
                }
            }
        }

        /** Spares the search where an event has no place even while the others are taken away. */
        private boolean canAllMove(int aside) {
            for (int event = 0; event < EVENTS; event++) {
                if (contains(aside, event) && table.freePlace(event, 0) == NOWHERE) {
                    return false;
                }
            }
            return true;
        }

        /** Tries places in ascending order, so that the first sequence found is the least one. */
        private static boolean placeAnew(Table table, int[] before, int aside, int event) {
            if (event < 0 || event >= EVENTS) {
                return true;
            }
            if (!contains(aside, event)) {
                return placeAnew(table, before, aside, event + 1);
            }
            for (int place = 0; place < PLACES; place++) {
                if (place != before[event] && table.obstacleAt(event, place) == NO_OBSTACLE) {
                    table.moveTo(event, place);
                    if (placeAnew(table, before, aside, event + 1)) {
                        return true;
                    }
                    table.moveTo(event, NOWHERE);
                }
            }
            return false;
        }

        void rankWaiting() {
            waiting = 0;
            for (int event = 0; event < EVENTS; event++) {
                if (table.hasEvent(event) && table.places[event] == NOWHERE) {
                    waiting |= 1 << event;
                    ranks[event] = rankOf(event);
                }
            }
        }

        /** Fewer suitable places count first; the groups only part events that have equally many. */
        private int rankOf(int event) {
            return table.suitablePlaces(event) * (GROUPS + 1) - Integer.bitCount(table.groups[event]);
        }

        /** Each event that rankWaiting found comes once, and then NONE. */
        int nextByRank() {
            int first = NONE;
            for (int event = 0; event < EVENTS; event++) {
                if (contains(waiting, event) && (first == NONE || ranks[event] < ranks[first])) {
                    first = event;
                }
            }
            if (first != NONE) {
                waiting &= ~(1 << first);
            }
            return first;
        }

        int chainOf(int event, int slot) {
            int both = table.slots[event] | 1 << slot;
            int chain = 1 << event;
            // A round that adds no event ends the chain, and no more rounds than there are events can add one.
            for (int round = 0; round < EVENTS; round++) {
                int longer = withLinked(chain, both);
                if (longer == chain) {
                    return chain;
                }
                chain = longer;
            }
            return chain;
        }

        private int withLinked(int chain, int both) {
            int teacherSet = 0;
            int groupSet = 0;
            for (int event = 0; event < EVENTS; event++) {
                if (contains(chain, event)) {
                    teacherSet |= 1 << table.teachers[event];
                    groupSet |= table.groups[event];
                }
            }
            int longer = chain;
            for (int event = 0; event < EVENTS; event++) {
                boolean linked = contains(teacherSet, table.teachers[event])
                        || (groupSet & table.groups[event]) != 0;
                if (linked && (table.slots[event] & both) != 0) {
                    longer |= 1 << event;
                }
            }
            return longer;
        }

        /** Writes the rooms of the exchange down without moving anything; false if there are none. */
        boolean findRooms(int chain, int own, int slot) {
            return canSwap(chain, own, slot)
                    && giveRooms(table, rooms, membersIn(chain, slot), openRooms(chain, own), 0)
                    && giveRooms(table, rooms, membersIn(chain, own), openRooms(chain, slot), 0);
        }

        private boolean canSwap(int chain, int own, int slot) {
            int both = 1 << own | 1 << slot;
            for (int event = 0; event < EVENTS; event++) {
                if (contains(chain, event) && (table.lengths[event] != 1 || table.fixed[event]
                        || !table.isAvailable(event, both & ~table.slots[event]))) {
                    return false;
                }
            }
            return true;
        }

        private int membersIn(int chain, int slot) {
            int set = 0;
            for (int event = 0; event < EVENTS; event++) {
                if (contains(chain, event) && contains(table.slots[event], slot)) {
                    set |= 1 << event;
                }
            }
            return set;
        }

        private int openRooms(int chain, int slot) {
            int open = ALL_ROOMS;
            for (int event = 0; event < EVENTS; event++) {
                if (!contains(chain, event) && contains(table.slots[event], slot)) {
                    open &= ~(1 << table.places[event] % ROOMS);
                }
            }
            return open;
        }

        /** Tries rooms in ascending order, so that the first sequence found is the least one. */
        private static boolean giveRooms(Table table, int[] rooms, int comers, int open, int event) {
            if (event < 0 || event >= EVENTS) {
                return true;
            }
            if (!contains(comers, event)) {
                return giveRooms(table, rooms, comers, open, event + 1);
            }
            int size = table.sizeOf(event);
            for (int room = 0; room < ROOMS; room++) {
                if (contains(open, room) && table.capacities[room] >= size && table.hasNeeds(event, room)) {
                    rooms[event] = room;
                    if (giveRooms(table, rooms, comers, open & ~(1 << room), event + 1)) {
                        return true;
                    }
                }
            }
            return false;
        }

        void swapSlots(int chain, int own, int slot) {
            for (int event = 0; event < EVENTS; event++) {
                if (contains(chain, event)) {
                    int to = table.slotOf(event) == own ? slot : own;
                    table.moveTo(event, to * ROOMS + rooms[event]);
                }
            }
        }

        boolean makeStep() {
            int least = table.totalCost();
            int bestEvent = NONE;
            int bestPlace = NOWHERE;
            for (int event = 0; event < EVENTS; event++) {
                int place = cheaperPlace(event, least);
                if (place != NOWHERE) {
                    least = table.costIf(event, place);
                    bestEvent = event;
                    bestPlace = place;
                }
            }
            if (bestEvent == NONE) {
                return false;
            }
            table.moveTo(bestEvent, bestPlace);
            return true;
        }

        /** The lowest of the cheapest places, or NOWHERE if none is below this cost. */
        private int cheaperPlace(int event, int cost) {
            if (table.places[event] == NOWHERE || table.fixed[event]) {
                return NOWHERE;
            }
            int least = cost;
            int best = NOWHERE;
            for (int place = 0; place < PLACES; place++) {
                if (table.obstacleAt(event, place) == NO_OBSTACLE) {
                    int then = table.costIf(event, place);
                    if (then < least) {
                        least = then;
                        best = place;
                    }
                }
            }
            return best;
        }
    }

    /** The tables before the latest changes, in a ring with one row more than undo can reach. */
    private static final class History {
        private final Table[] earlier = new Table[UNDOS + 1];
        private int next;
        int changes;

        History() {
            for (int row = 0; row < earlier.length; row++) {
                earlier[row] = new Table();
            }
        }

        void keep(Table table) {
            note(table);
            keepNoted();
        }

        /** The spare row takes the table, so that a call that fails later forgets no older change. */
        void note(Table table) {
            Table row = nextRow();
            if (row != null) {
                row.copyFrom(table);
            }
        }

        void keepNoted() {
            next = next < UNDOS ? next + 1 : 0;
            changes = Math.min(changes + 1, UNDOS);
        }

        void takeBack(Table table) {
            next = next > 0 ? next - 1 : UNDOS;
            changes = Math.max(changes - 1, 0);
            table.copyFrom(nextRow());
        }

        private Table nextRow() {
            return next >= 0 && next < earlier.length ? earlier[next] : null;
        }
    }

    /** The buffer, and the event that was read from it most recently. */
    private static final class EventText {
        private final int[] signs = new int[SIGNS];
        private int position;
        int used;
        int errorAt = NONE;
        int teacher;
        int groups;
        int needs;
        int length;

        static boolean isText(int packed) {
            for (int shift = 24; shift >= 0; shift -= 8) {
                int sign = packed >> shift & 255;
                if (sign != 0 && (sign < 33 || sign > 126)) {
                    return false;
                }
            }
            return true;
        }

        boolean hasRoomFor(int packed) {
            int more = 0;
            for (int shift = 24; shift >= 0; shift -= 8) {
                if ((packed >> shift & 255) != 0) {
                    more++;
                }
            }
            return used + more <= SIGNS;
        }

        int add(int packed) {
            for (int shift = 24; shift >= 0; shift -= 8) {
                int sign = packed >> shift & 255;
                if (sign != 0 && used >= 0 && used < SIGNS) {
                    signs[used] = sign;
                    used++;
                }
            }
            return used;
        }

        /** Each part that finds an error leaves the position there. */
        boolean readEvent() {
            position = 0;
            boolean good = readTeacher() && readGroups() && readNeeds() && readLength() && position == used;
            errorAt = good ? NONE : position;
            used = 0;
            return good;
        }

        private boolean readTeacher() {
            teacher = digit();
            if (teacher < 0 || teacher >= TEACHERS) {
                return false;
            }
            position++;
            return skip(':');
        }

        private boolean readGroups() {
            groups = 0;
            int last = -1;
            for (int number = 0; number < GROUPS; number++) {
                int group = digit();
                if (group <= last || group >= GROUPS) {
                    return false;
                }
                groups |= 1 << group;
                last = group;
                position++;
                if (!skip(',')) {
                    return true;
                }
            }
            // Behind all groups a comma may stand, but nothing may stand behind it.
            return false;
        }

        private boolean readNeeds() {
            needs = 0;
            if (!skip('/')) {
                return true;
            }
            int first = position;
            int value = digit();
            if (value < 0) {
                return false;
            }
            position++;
            int second = digit();
            if (value > 0 && second >= 0) {
                value = 10 * value + second;
                position++;
            }
            if (value > MOST_FEATURES) {
                position = first;
                return false;
            }
            needs = value;
            return true;
        }

        private boolean readLength() {
            length = 1;
            if (!skip('*')) {
                return true;
            }
            int value = digit();
            if (value != 1 && value != 2) {
                return false;
            }
            length = value;
            position++;
            return true;
        }

        private int sign() {
            return position >= 0 && position < SIGNS && position < used ? signs[position] : 0;
        }

        private int digit() {
            int value = sign() - '0';
            return value >= 0 && value <= 9 ? value : -1;
        }

        private boolean skip(char wanted) {
            if (sign() != wanted) {
                return false;
            }
            position++;
            return true;
        }
    }
}
