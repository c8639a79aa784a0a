/**
 * The boundary cases of promises 30 to 32.
 * A comment before a test is the sentence that it tests.
 */
final class MarkBoundsTest {
    private static final Refusals SCENE = new Refusals(Scene::rich);
    private static final Refusals FULL = new Refusals(Scene::full);

    public static void main(String[] args) {
        markedRefuses();
        withoutAMarkedTable();
        markNothing();
        markAll();
        everyPlace();
        awayAndBack();
        markAgain();
        laterEvents();
        fixingIsNoOtherPlace();
        unplacedByASetting();
        undoOfMarks();
        saveAndRestore();
        eachEventOfFourteen();
        Check.end();
    }

    // "Throws IndexOutOfBoundsException if there is no such event"

    private static void markedRefuses() {
        for (int event : Scene.NO_EVENTS) {
            SCENE.index("P32 event " + event, x -> x.marked(event));
        }
        FULL.index("P32 event 14 of 14", x -> x.marked(14));
        FULL.asks("P32 the last of 14", -1, x -> x.marked(13));
        Refusals none = new Refusals(TimetableBuilder::new);
        none.index("P32 event 0 of none", x -> x.marked(0));
        int[] due = {6, 13, 17, 18, -1, -1, -1, 46, -1};
        for (int event = 0; event < 9; event++) {
            int e = event;
            SCENE.asks("P32 event " + e, due[e], x -> x.marked(e));
        }
        SCENE.asks("P31 moved and unplaced since", 8 + 128, TimetableBuilder::changed);
    }

    // "Without a marked table, no event counts as placed in it, so that changed returns the set of the events that are
    // placed."

    private static void withoutAMarkedTable() {
        FULL.asks("P31 those that are placed", 7, TimetableBuilder::changed);
        for (int event = 0; event < 14; event++) {
            int e = event;
            FULL.asks("P32 none is marked", -1, x -> x.marked(e));
        }
        TimetableBuilder x = Check.with("0:0");
        Check.due("P31 none is placed", 0, x::changed);
        x.place(0, 0);
        Check.due("P31 at the first place", 1, x::changed);
        x.unplace(0);
        Check.due("P31 none is placed again", 0, x::changed);
    }

    // "Marks the present table.", "Returns the number of placed events."

    private static void markNothing() {
        TimetableBuilder x = new TimetableBuilder();
        Check.due("P30 no events", 0, x::mark);
        Check.due("P30 a change", 1, () -> x.count(4));
        Check.add(x, "0:0");
        Check.due("P30 one that is not placed", 0, x::mark);
        Check.due("P31 nothing changed", 0, x::changed);
        x.place(0, 0);
        Check.due("P31 placed since", 1, x::changed);
        Check.due("P32 not in the marked table", -1, () -> x.marked(0));
    }

    private static void markAll() {
        TimetableBuilder x = new TimetableBuilder();
        for (int event = 0; event < 14; event++) {
            int e = event;
            Check.add(x, event % 6 + ":" + event % 6);
            x.place(e, 6 * (e / 6) + e % 6);
            Check.due("P31 placed", 1 << e, x::changed);
            Check.due("P30 placed ones", e + 1, x::mark);
            Check.due("P32 its place", e, () -> x.marked(e));
        }
        Check.due("P31 nothing changed", 0, x::changed);
        for (int event = 0; event < 14; event++) {
            x.unplace(event);
        }
        Check.due("P31 all changed", (1 << 14) - 1, x::changed);
    }

    // "Returns the place, or -1."

    private static void everyPlace() {
        TimetableBuilder x = Check.with("0:0");
        for (int place = 0; place < 60; place++) {
            int p = place;
            x.place(0, p);
            Check.due("P31 placed elsewhere", 1, x::changed);
            x.mark();
            Check.due("P32 the place", p, () -> x.marked(0));
            Check.due("P31 nothing changed", 0, x::changed);
        }
    }

    // "Returns the events whose places are not those of the marked table"

    private static void awayAndBack() {
        TimetableBuilder x = Check.with("0:0", "1:1", "2:2");
        x.place(0, 0);
        x.place(1, 1);
        x.mark();
        x.place(0, 6);
        Check.due("P31 elsewhere", 1, x::changed);
        x.unplace(1);
        Check.due("P31 not placed", 3, x::changed);
        x.place(2, 2);
        Check.due("P31 placed", 7, x::changed);
        x.place(0, 0);
        Check.due("P31 the first is back", 6, x::changed);
        x.place(1, 1);
        Check.due("P31 the second is back", 4, x::changed);
        x.unplace(2);
        Check.due("P31 all are back", 0, x::changed);
    }

    private static void markAgain() {
        TimetableBuilder x = Check.with("0:0", "1:1");
        x.place(0, 0);
        x.mark();
        x.unplace(0);
        x.place(1, 59);
        Check.due("P30 one is placed", 1, x::mark);
        Check.due("P32 not the one that was", -1, () -> x.marked(0));
        Check.due("P32 the other one", 59, () -> x.marked(1));
        Check.due("P31 nothing changed", 0, x::changed);
    }

    // "events that came into being later count as unplaced in it"

    private static void laterEvents() {
        TimetableBuilder x = Check.with("0:0,1");
        x.place(0, 59);
        x.mark();
        Check.add(x, "1:2");
        x.split(0, 2);
        for (int event = 1; event <= 2; event++) {
            int e = event;
            Check.due("P32 came later", -1, () -> x.marked(e));
        }
        Check.due("P31 they are not placed", 0, x::changed);
        x.place(1, 0);
        x.place(2, 1);
        Check.due("P31 now they are", 6, x::changed);
        x.removeEvent(0);
        Check.due("P31 with other numbers", 3, x::changed);
        Check.due("P32 still not in it", -1, () -> x.marked(0));
    }

    private static void fixingIsNoOtherPlace() {
        TimetableBuilder x = Check.with("0:0");
        x.place(0, 0);
        x.mark();
        x.fix(0, true);
        x.setRoom(0, 50, 1);
        x.setWeight(0, 9);
        Check.due("P31 the place is the same", 0, x::changed);
        x.place(0, 0 * x.unplace(0));
        Check.due("P31 placed there again", 0, x::changed);
    }

    private static void unplacedByASetting() {
        TimetableBuilder x = Check.with("0:0");
        x.place(0, 7);
        x.mark();
        x.setTeacher(0, 0);
        Check.due("P31 unplaced", 1, x::changed);
        Check.due("P32 the marked place is what it was", 7, () -> x.marked(0));
    }

    private static void undoOfMarks() {
        TimetableBuilder x = Check.with("0:0");
        x.place(0, 7);
        x.mark();
        x.undo();
        Check.due("P34 no marked table again", -1, () -> x.marked(0));
        Check.due("P31 so the placed one changed", 1, x::changed);
        x.mark();
        x.place(0, 8);
        x.mark();
        x.undo();
        Check.due("P34 the marked table before", 7, () -> x.marked(0));
        Check.due("P31 which is another one", 1, x::changed);
    }

    private static void saveAndRestore() {
        TimetableBuilder x = Check.with("0:0");
        x.place(0, 7);
        x.save();
        x.mark();
        x.restore();
        Check.due("P36 saved without a marked table", -1, () -> x.marked(0));
        x.mark();
        x.save();
        x.place(0, 8);
        x.mark();
        x.restore();
        Check.due("P36 saved with a marked table", 7, () -> x.marked(0));
        Check.due("P31 nothing changed", 0, x::changed);
    }

    // "Returns the set, bit e for event e."

    private static void eachEventOfFourteen() {
        for (int event = 0; event < 14; event++) {
            TimetableBuilder x = new TimetableBuilder();
            for (int other = 0; other < 14; other++) {
                Check.add(x, other % 6 + ":" + other % 6);
                x.place(other, 6 * (other / 6) + other % 6);
            }
            x.mark();
            x.place(event, 54);
            Check.due("P31 event " + event, 1 << event, x::changed);
        }
    }
}
