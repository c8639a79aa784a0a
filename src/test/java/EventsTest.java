/** Promises 10 to 12: removeEvent, split, event. */
final class EventsTest {
    public static void main(String[] args) {
        removeEvent();
        removeFirstOfFourteen();
        split();
        splitIntoFourteen();
        event();
        Check.end();
    }

    private static void removeEvent() {
        TimetableBuilder x = Check.with("0:0", "1:1/3", "2:2*2", "3:3,4");
        x.setRoom(1, 30, 3);
        x.place(0, 0);
        x.place(1, 1);
        x.place(2, 2);
        x.mark();
        x.place(3, 3);
        x.fix(2, true);
        Check.due("three remain", 3, () -> x.removeEvent(1));
        Check.same("the places move with their events", "0 2 3", Check.places(x));
        Check.same("the second one", "2:2*2", Check.describe(x, 1));
        Check.same("the third one", "3:3,4", Check.describe(x, 2));
        Check.due("fixed moves too", 1, () -> x.event(1, 6));
        Check.due("and no other is fixed", 1, () -> x.count(2));
        Check.due("the marked table too", 2, () -> x.marked(1));
        Check.due("the unmarked one too", -1, () -> x.marked(2));
        Check.due("changed", 4, x::changed);
        Check.due("its room is free", 0, () -> x.hindering(0, 1));
        Check.fails("event 3", Check.INDEX, () -> x.removeEvent(3));
        Check.fails("event -1", Check.INDEX, () -> x.removeEvent(-1));
        Check.due("the last one", 2, () -> x.removeEvent(2));
        Check.due("a new one gets its number", 2, () -> Check.add(x, "5:5"));
        Check.due("and nothing else of it", -1, () -> x.event(2, 5));
        Check.due("the first one", 2, () -> x.removeEvent(0));
        x.removeEvent(0);
        Check.due("none is left", 0, () -> x.removeEvent(0));
        Check.fails("none to remove", Check.INDEX, () -> x.removeEvent(0));
    }

    private static void removeFirstOfFourteen() {
        TimetableBuilder x = new TimetableBuilder();
        for (int event = 0; event < 14; event++) {
            Check.add(x, event % 6 + ":" + event % 6);
        }
        x.place(13, 8);
        x.mark();
        x.fix(13, true);
        Check.due("thirteen remain", 13, () -> x.removeEvent(0));
        Check.due("the last place", 8, () -> x.event(12, 5));
        Check.due("the last mark", 8, () -> x.marked(12));
        Check.due("the last one is fixed", 1, () -> x.event(12, 6));
        Check.due("there", 12, () -> x.at(1, 2));
        Check.add(x, "0:5");
        Check.due("the new last one has no place", -1, () -> x.event(13, 5));
        Check.due("no mark", -1, () -> x.marked(13));
        Check.due("is not fixed", 0, () -> x.event(13, 6));
        Check.due("and takes nothing", 2, () -> x.taken(1, 1));
    }

    private static void split() {
        TimetableBuilder x = Check.with("4:0,2,5/6*2", "1:1");
        x.setRoom(3, 45, 6);
        x.place(0, 3);
        x.fix(0, true);
        x.mark();
        Check.due("slack before", 1, () -> x.cost(2));
        Check.due("the new one", 2, () -> x.split(0, 36));
        Check.same("what stays", "4:0/6*2", Check.describe(x, 0));
        Check.same("what leaves", "4:2,5/6*2", Check.describe(x, 2));
        Check.same("the places", "3 -1 -1", Check.places(x));
        Check.due("still fixed", 1, () -> x.event(0, 6));
        Check.due("the new one is not", 0, () -> x.event(2, 6));
        Check.due("the new one is not marked", -1, () -> x.marked(2));
        Check.due("slack with the smaller size", 3, () -> x.cost(2));
        Check.fails("event 3", Check.INDEX, () -> x.split(3, 0));
        Check.fails("event -1", Check.INDEX, () -> x.split(-1, 1));
        Check.fails("no groups", Check.ARGUMENT, () -> x.split(2, 0));
        Check.fails("all groups", Check.ARGUMENT, () -> x.split(2, 36));
        Check.fails("another group", Check.ARGUMENT, () -> x.split(2, 5));
        Check.fails("no group at all has this bit", Check.ARGUMENT, () -> x.split(2, 64 + 4));
        Check.fails("a negative set", Check.ARGUMENT, () -> x.split(2, -1));
        Check.due("nothing came of it", 3, () -> x.count(0));
        Check.same("nor left it", "4:2,5/6*2", Check.describe(x, 2));
    }

    private static void splitIntoFourteen() {
        TimetableBuilder x = Check.with("0:0,1", "0:0", "0:0", "0:0", "0:0", "0:0", "0:0", "0:0", "0:0", "0:0", "0:0",
            "0:0", "0:0,1");
        Check.due("the fourteenth", 13, () -> x.split(0, 1));
        Check.fails("a fifteenth", Check.STATE, () -> x.split(12, 1));
        Check.fails("a wrong set counts first", Check.ARGUMENT, () -> x.split(12, 3));
        Check.same("nothing left it", "0:0,1", Check.describe(x, 12));
    }

    private static void event() {
        TimetableBuilder x = Check.with("3:1,4/9*2");
        x.setRoom(2, 99, 15);
        x.setGroup(1, 3);
        int[] due = {3, 18, 9, 2, 13, -1, 0};
        for (int what = 0; what < due.length; what++) {
            int k = what;
            Check.due("property " + k, due[k], () -> x.event(0, k));
        }
        x.place(0, 50);
        Check.due("its place", 50, () -> x.event(0, 5));
        x.fix(0, true);
        Check.due("fixed", 1, () -> x.event(0, 6));
        Check.fails("event 1", Check.INDEX, () -> x.event(1, 7));
        Check.fails("event -1", Check.INDEX, () -> x.event(-1, 0));
        Check.fails("what -1", Check.ARGUMENT, () -> x.event(0, -1));
        Check.fails("what 7", Check.ARGUMENT, () -> x.event(0, 7));
    }
}
