import java.util.ArrayList;
import java.util.List;

/**
 * The boundary cases of promises 10 to 12, and of "Events" in the description.
 * A comment before a test is the sentence that it tests.
 */
final class EventBoundsTest {
    private static final Refusals SCENE = new Refusals(Scene::rich);
    private static final Refusals FULL = new Refusals(Scene::full);

    public static void main(String[] args) {
        removeRefuses();
        removeAll();
        removeEach();
        removeWhatIsPlaced();
        removeLeavesNothing();
        removeAndAdd();
        removeIsNoSaving();
        splitRefusesEvents();
        splitRefusesSets();
        splitNeedsRoom();
        splitEachPart();
        splitWhatIsPlaced();
        eventRefuses();
        eventLimits();
        sizes();
        slotsOfAnEvent();
        Check.end();
    }

    /** Fourteen events that differ: most are placed, some fixed, and the marked table is another one. */
    private static TimetableBuilder fourteen() {
        TimetableBuilder x = new TimetableBuilder();
        for (int room = 0; room < 6; room++) {
            x.setRoom(room, 60, 15);
        }
        for (int event = 0; event < 14; event++) {
            Check.add(x, event % 6 + ":" + event % 6 + "/" + event);
            if (event != 5 && event != 13) {
                x.place(event, 6 * (event % 10) + event / 10);
            }
        }
        x.mark();
        x.unplace(2);
        x.place(5, 30);
        x.place(7, 45);
        for (int event : new int[] {0, 4, 9, 12}) {
            x.fix(event, true);
        }
        return x;
    }

    private static List<String> rows(TimetableBuilder x) {
        List<String> rows = new ArrayList<>();
        for (int event = 0; event < x.count(0); event++) {
            boolean changed = (x.changed() >> event & 1) != 0;
            rows.add(Check.describe(x, event) + " at " + x.event(event, 5) + " fixed " + x.event(event, 6) + " marked "
                + x.marked(event) + (changed ? " changed" : ""));
        }
        return rows;
    }

    // "Throws IndexOutOfBoundsException if there is no such event"

    private static void removeRefuses() {
        for (int event : Scene.NO_EVENTS) {
            SCENE.index("P10 event " + event, x -> x.removeEvent(event));
        }
        FULL.index("P10 event 14 of 14", x -> x.removeEvent(14));
        Refusals none = new Refusals(TimetableBuilder::new);
        none.index("P10 event 0 of none", x -> x.removeEvent(0));
    }

    // "Returns the number of remaining events."

    private static void removeAll() {
        TimetableBuilder x = fourteen();
        for (int left = 13; left >= 0; left--) {
            int k = left;
            Check.due("P10 events left", k, () -> x.removeEvent(k % 3 == 0 ? 0 : k));
            Check.due("P10 in count too", k, () -> x.count(0));
        }
        Check.fails("P10 none is left", Check.INDEX, () -> x.removeEvent(0));
        Check.due("P10 nothing is unplaced", 0, () -> x.cost(4));
        Check.due("P10 nothing changed", 0, x::changed);
        Check.due("P10 nothing fixed", 0, () -> x.count(2));
    }

    // "The numbers of the later ones decrease by 1, also in the marked table."

    private static void removeEach() {
        for (int event = 0; event < 14; event++) {
            int k = event;
            TimetableBuilder x = fourteen();
            List<String> want = rows(x);
            want.remove(k);
            Check.due("P10 event " + k, 13, () -> x.removeEvent(k));
            Look.same("P10 the others without event " + k, want, rows(x));
            Check.fails("P10 no event 13", Check.INDEX, () -> x.event(13, 0));
        }
    }

    private static void removeWhatIsPlaced() {
        TimetableBuilder x = Check.with("0:0", "0:0*2", "1:0");
        x.place(0, 0);
        x.place(1, 6);
        x.fix(1, true);
        Check.due("P10 a fixed one too", 2, () -> x.removeEvent(1));
        Check.due("P10 its teacher is free", 1, () -> x.taken(0, 0));
        Check.due("P10 its group is free", 1, () -> x.taken(1, 0));
        Check.due("P10 its room is free", 1, () -> x.taken(2, 0));
        Check.due("P10 nothing is fixed", 0, () -> x.count(2));
        Check.due("P10 so another event fits", -1, () -> x.place(1, 12));
    }

    private static void removeLeavesNothing() {
        for (int number = 0; number < 6; number++) {
            int n = number;
            TimetableBuilder x = fourteen();
            while (x.count(0) > 0) {
                x.removeEvent(x.count(0) - 1);
            }
            for (int index = 0; index < 18; index++) {
                int k = index;
                Check.due("P22 nothing is taken", 0, () -> x.taken(k / 6, k % 6));
            }
            for (int place = 0; place < 60; place++) {
                int k = place;
                Check.fails("P21 nothing is there", Check.NO_ELEMENT, () -> x.at(k / 6, k % 6));
            }
            int event = Check.add(x, n + ":" + n);
            Check.due("P18 a new event may stand everywhere", 60, () -> x.places(event, 0));
            Check.due("P20 nothing hinders it", 0, () -> x.hindering(event, n));
        }
    }

    private static void removeAndAdd() {
        for (int event : new int[] {0, 5, 13}) {
            TimetableBuilder x = fourteen();
            x.place(13, 59);
            x.fix(13, true);
            x.mark();
            x.removeEvent(event);
            Check.due("P10 the number is given again", 13, () -> Check.add(x, "2:3"));
            Check.due("P10 but not the place", -1, () -> x.event(13, 5));
            Check.due("P10 nor fixed", 0, () -> x.event(13, 6));
            Check.due("P10 nor the mark", -1, () -> x.marked(13));
        }
    }

    private static void removeIsNoSaving() {
        List<String> then = rows(fourteen());
        TimetableBuilder x = fourteen();
        x.removeEvent(3);
        x.removeEvent(0);
        x.undo();
        x.undo();
        Look.same("P34 undo brings events and marks back", then, rows(x));
        TimetableBuilder y = fourteen();
        y.save();
        y.removeEvent(4);
        y.restore();
        Look.same("P36 restore too", then, rows(y));
    }

    // "Throws IndexOutOfBoundsException if there is no such event" before all others

    private static void splitRefusesEvents() {
        for (int event : Scene.NO_EVENTS) {
            SCENE.index("P11 event " + event, x -> x.split(event, 1));
            SCENE.index("P11 the event comes before the set", x -> x.split(event, 0));
            if (event != 9) {
                FULL.index("P11 the event comes before the room for it", x -> x.split(event, 1));
            }
        }
        FULL.index("P11 event 14 of 14", x -> x.split(14, 0));
    }

    // "if the set is empty, contains a group that the event does not have, or all of its groups"

    private static void splitRefusesSets() {
        SCENE.argument("P11 the empty set", x -> x.split(3, 0));
        SCENE.argument("P11 all of its groups", x -> x.split(3, 12));
        SCENE.argument("P11 the only group", x -> x.split(1, 2));
        SCENE.argument("P11 another group", x -> x.split(1, 1));
        for (int bit = 0; bit < 32; bit++) {
            int other = 1 << bit;
            if (bit == 2 || bit == 3) {
                Check.due("P11 its own group " + bit, 9, () -> Scene.rich().split(3, other));
            } else {
                SCENE.argument("P11 group " + bit + " alone", x -> x.split(3, other));
                SCENE.argument("P11 group " + bit + " beside one of its own", x -> x.split(3, 4 | other));
                SCENE.argument("P11 group " + bit + " beside all of its own", x -> x.split(3, 12 | other));
            }
        }
        SCENE.argument("P11 all bits", x -> x.split(3, -1));
    }

    // "Throws IllegalStateException if there are 14 events"

    private static void splitNeedsRoom() {
        FULL.state("P11 a fifteenth event", x -> x.split(0, 1));
        FULL.argument("P11 the empty set comes before that", x -> x.split(0, 0));
        FULL.argument("P11 all groups too", x -> x.split(0, 33));
        FULL.argument("P11 another group too", x -> x.split(0, 2));
        TimetableBuilder x = Scene.full();
        x.removeEvent(7);
        Check.due("P11 the fourteenth", 13, () -> x.split(12, 32));
        Check.fails("P11 no other", Check.STATE, () -> x.split(0, 1));
    }

    // "some of its groups leave it, and a new event, which is not placed, gets them, and the same teacher, features
    // and length"

    private static void splitEachPart() {
        for (int groups = 1; groups < 63; groups++) {
            int part = groups;
            TimetableBuilder x = Check.with("1:1", "4:0,1,2,3,4,5/11*2");
            Check.due("P11 its number", 2, () -> x.split(1, part));
            Check.due("P11 what stays", 63 - part, () -> x.event(1, 1));
            int[] due = {4, part, 11, 2, 10 * Integer.bitCount(part), -1, 0};
            for (int what = 0; what <= 6; what++) {
                int k = what;
                Check.due("P11 property " + k + " of the new one", due[k], () -> x.event(2, k));
            }
            Check.due("P11 the teacher stays", 4, () -> x.event(1, 0));
            Check.due("P11 the features stay", 11, () -> x.event(1, 2));
            Check.due("P11 the length stays", 2, () -> x.event(1, 3));
        }
        Check.same("P11 a short one", "0:2", Check.describe(splitOnce("0:0,2", 4), 1));
        Check.same("P11 without features", "0:0", Check.describe(splitOnce("0:0,2", 4), 0));
    }

    private static TimetableBuilder splitOnce(String text, int groups) {
        TimetableBuilder x = Check.with(text);
        x.split(0, groups);
        return x;
    }

    private static void splitWhatIsPlaced() {
        TimetableBuilder x = Check.with("0:0,1", "1:2");
        x.place(0, 59);
        x.fix(0, true);
        x.mark();
        x.split(0, 2);
        Check.same("P11 the event stays placed, the new one is not", "59 -1 -1", Check.places(x));
        Check.due("P11 it stays fixed", 1, () -> x.event(0, 6));
        Check.due("P11 the new one is not", 0, () -> x.event(2, 6));
        Check.due("P11 it stays marked", 59, () -> x.marked(0));
        Check.due("P11 the new one came later", -1, () -> x.marked(2));
        Check.due("P11 so nothing changed", 0, x::changed);
        Check.due("P11 the group that left is free", 0, () -> x.taken(1, 1));
        Check.due("P11 the one that stayed is not", 512, () -> x.taken(1, 0));
    }

    // "what: 0 for its teacher, ... 6 for 1 if it is fixed, otherwise 0", "Throws ... if what is not from 0 to 6"

    private static void eventRefuses() {
        for (int event : Scene.NO_EVENTS) {
            SCENE.index("P12 event " + event, x -> x.event(event, 0));
            SCENE.index("P12 the event comes before what", x -> x.event(event, 7));
        }
        for (int what : Check.outside(7)) {
            SCENE.argument("P12 what " + what, x -> x.event(0, what));
        }
    }

    private static void eventLimits() {
        int[][] due = {{0, 1, 0, 1, 10, 6, 1}, {2, 4, 5, 1, 10, 17, 1}, {4, 3, 8, 1, 20, -1, 0}, {0, 2, 0, 1, 10, -1, 0}};
        int[] events = {0, 2, 6, 8};
        for (int i = 0; i < events.length; i++) {
            int e = events[i];
            for (int what = 0; what <= 6; what++) {
                int k = what;
                SCENE.asks("P12 property " + k + " of event " + e, due[i][k], x -> x.event(e, k));
            }
        }
        TimetableBuilder y = Check.with("0:0", "5:5");
        y.place(0, 0);
        y.place(1, 59);
        Check.due("P12 the first place", 0, () -> y.event(0, 5));
        Check.due("P12 the last place", 59, () -> y.event(1, 5));
        y.unplace(0);
        Check.due("P12 no place", -1, () -> y.event(0, 5));
        y.fix(1, true);
        Check.due("P12 fixed", 1, () -> y.event(1, 6));
        y.fix(1, false);
        Check.due("P12 not fixed", 0, () -> y.event(1, 6));
    }

    // "Its size is the sum of the sizes of its groups."

    private static void sizes() {
        TimetableBuilder x = Check.with("0:0,1,2,3,4,5", "0:0,5", "0:3");
        for (int group = 0; group < 6; group++) {
            x.setGroup(group, 1 << Math.min(group, 5));
        }
        Check.due("P12 six groups", 63, () -> x.event(0, 4));
        Check.due("P12 two groups", 33, () -> x.event(1, 4));
        Check.due("P12 one group", 8, () -> x.event(2, 4));
        for (int group = 0; group < 6; group++) {
            x.setGroup(group, 40);
        }
        Check.due("P12 the greatest size", 240, () -> x.event(0, 4));
        for (int group = 0; group < 6; group++) {
            x.setGroup(group, 0);
        }
        Check.due("P12 the least size", 0, () -> x.event(0, 4));
        Check.due("P17 which no room is too small for", 60, () -> x.places(0, 0));
    }

    // "An event that is placed at the place of a slot takes this slot and, if its length is 2, the next one, in the
    // room of the place.", "The place with the number 6 * slot + room stands for this slot and this room"

    private static void slotsOfAnEvent() {
        for (int place = 0; place < 60; place++) {
            takes("3:4", place, 1 << place / 6);
            if (place / 6 != 4 && place / 6 != 9) {
                takes("3:4*2", place, 3 << place / 6);
            }
        }
    }

    private static void takes(String text, int place, int slots) {
        TimetableBuilder x = Check.with(text);
        x.place(0, place);
        Check.due("P22 slots of the teacher", slots, () -> x.taken(0, 3));
        Check.due("P22 slots of the group", slots, () -> x.taken(1, 4));
        for (int room = 0; room < 6; room++) {
            int r = room;
            Check.due("P22 slots in room " + r, r == place % 6 ? slots : 0, () -> x.taken(2, r));
            for (int slot = 0; slot < 10; slot++) {
                int s = slot;
                boolean its = r == place % 6 && (slots >> s & 1) != 0;
                Check.same("P21 at " + s + ", " + r, its ? "0" : "NoSuchElementException", Check.answer(() -> x.at(s, r)));
            }
        }
    }
}
