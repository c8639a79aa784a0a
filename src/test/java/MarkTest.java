/** Promises 30 to 32: mark, changed, marked. */
final class MarkTest {
    public static void main(String[] args) {
        unmarked();
        marked();
        laterEvents();
        Check.end();
    }

    private static void unmarked() {
        TimetableBuilder x = Check.with("0:0", "1:1", "2:2");
        Check.due("nothing placed, nothing changed", 0, x::changed);
        x.place(0, 0);
        x.place(2, 2);
        Check.due("the placed ones", 5, x::changed);
        Check.due("not marked", -1, () -> x.marked(0));
        Check.fails("event 3", Check.INDEX, () -> x.marked(3));
        Check.fails("event -1", Check.INDEX, () -> x.marked(-1));
    }

    private static void marked() {
        TimetableBuilder x = Check.with("0:0", "1:1", "2:2");
        x.place(0, 0);
        x.place(2, 2);
        Check.due("two are placed", 2, x::mark);
        Check.due("it is a change", 6, () -> x.count(4));
        Check.due("nothing changed", 0, x::changed);
        x.place(0, 6);
        x.place(1, 1);
        x.unplace(2);
        Check.due("all changed", 7, x::changed);
        Check.due("the marked place", 0, () -> x.marked(0));
        Check.due("of an unplaced one", -1, () -> x.marked(1));
        Check.due("of one that was placed", 2, () -> x.marked(2));
        x.place(0, 0);
        Check.due("back again", 6, x::changed);
        Check.due("a new table", 2, x::mark);
        Check.due("replaces the old one", -1, () -> x.marked(2));
        Check.due("nothing changed from it", 0, x::changed);
        x.undo();
        Check.due("undo brings the old one", 2, () -> x.marked(2));
        x.fix(0, true);
        Check.due("fixing is no other place", 6, x::changed);
    }

    private static void laterEvents() {
        TimetableBuilder x = Check.with("0:0,1", "1:2");
        x.place(0, 0);
        x.mark();
        Check.add(x, "2:3");
        Check.due("a later one counts as unplaced", -1, () -> x.marked(2));
        Check.due("so it did not change", 0, x::changed);
        x.place(2, 1);
        Check.due("now it did", 4, x::changed);
        x.split(0, 2);
        Check.due("a split one too", -1, () -> x.marked(3));
        x.removeEvent(0);
        Check.due("the numbers decrease", 2, x::changed);
        x.mark();
        x.removeEvent(1);
        Check.add(x, "5:5");
        Check.due("a removed one leaves no mark", -1, () -> x.marked(2));
    }
}
