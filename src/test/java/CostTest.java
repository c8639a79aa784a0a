/** Promises 28 and 29: cost, costAt. */
final class CostTest {
    public static void main(String[] args) {
        gaps();
        lateOnes();
        slack();
        weights();
        costAt();
        Check.end();
    }

    private static void gaps() {
        TimetableBuilder x = Check.with("0:0,1", "1:0", "2:1", "3:0,2", "4:1*2");
        x.place(0, 0);
        Check.due("one event has no gap", 0, () -> x.cost(0));
        x.place(1, 12);
        Check.due("one gap of group 0", 1, () -> x.cost(0));
        x.place(2, 24);
        Check.due("and three of group 1", 4, () -> x.cost(0));
        x.place(4, 7);
        Check.due("a long one closes two", 2, () -> x.cost(0));
        x.place(3, 30);
        Check.due("the days are apart", 2, () -> x.cost(0));
        x.place(1, 54);
        Check.due("gaps of the second day", 1 + 3, () -> x.cost(0));
        x.place(1, 48);
        Check.due("not behind the last one", 1 + 2, () -> x.cost(0));
    }

    private static void lateOnes() {
        TimetableBuilder x = Check.with("0:0", "1:1*2", "2:2", "3:3");
        x.place(0, 24);
        Check.due("the last slot of the first day", 1, () -> x.cost(1));
        x.place(1, 48);
        Check.due("a long one that ends late", 2, () -> x.cost(1));
        x.place(2, 59);
        Check.due("two in one slot", 3, () -> x.cost(1));
        x.place(3, 23);
        Check.due("the slot before is not late", 3, () -> x.cost(1));
        x.place(1, 42);
        Check.due("nor a long one that ends there", 2, () -> x.cost(1));
    }

    private static void slack() {
        TimetableBuilder x = Check.with("0:0", "1:1", "2:2");
        x.setRoom(0, 29, 0);
        x.setRoom(1, 19, 0);
        x.setRoom(2, 99, 0);
        x.place(0, 0);
        Check.due("19 to spare", 1, () -> x.cost(2));
        x.place(1, 1);
        Check.due("each is truncated", 1, () -> x.cost(2));
        x.place(2, 2);
        Check.due("89 to spare", 9, () -> x.cost(2));
        x.setGroup(2, 0);
        Check.due("99 to spare", 10, () -> x.cost(2));
    }

    private static void weights() {
        TimetableBuilder x = Check.with("0:0", "1:0", "2:3", "2:4");
        x.place(0, 0);
        x.place(1, 24);
        Check.due("unplaced", 2, () -> x.cost(3));
        Check.due("each weight 1", 3 + 1 + 4 + 200, () -> x.cost(4));
        x.setWeight(0, 9);
        x.setWeight(1, 0);
        x.setWeight(2, 3);
        Check.due("weighted", 27 + 0 + 12 + 200, () -> x.cost(4));
        x.setWeight(1, 7);
        Check.due("the late one", 27 + 7 + 12 + 200, () -> x.cost(4));
        Check.due("the parts are not weighted", 3, () -> x.cost(0));
        Check.fails("what 5", Check.ARGUMENT, () -> x.cost(5));
        Check.fails("what -1", Check.ARGUMENT, () -> x.cost(-1));
    }

    private static void costAt() {
        TimetableBuilder x = Check.with("0:0", "1:0", "2:1");
        x.place(0, 0);
        Check.due("now", 2 + 200, () -> x.cost(4));
        Check.due("placed, it does not count as unplaced", 2 + 2 + 1 + 100, () -> x.costAt(1, 12));
        Check.due("its own place costs what it costs", 2 + 200, () -> x.costAt(0, 0));
        Check.due("moved", 2 + 1 + 200, () -> x.costAt(0, 25));
        x.fix(0, true);
        Check.due("a fixed one can be asked for", 2 + 200, () -> x.costAt(0, 6));
        Check.fails("an obstacle", Check.STATE, () -> x.costAt(1, 5));
        Check.fails("event 3", Check.INDEX, () -> x.costAt(3, 0));
        Check.fails("event -1", Check.INDEX, () -> x.costAt(-1, 0));
        Check.fails("place 60", Check.INDEX, () -> x.costAt(0, 60));
        Check.fails("place -1", Check.INDEX, () -> x.costAt(0, -1));
        Check.same("nothing moved", "0 -1 -1", Check.places(x));
        Check.due("nothing taken", 1, () -> x.taken(1, 0));
        Check.due("no change", 5, () -> x.count(4));
    }
}
