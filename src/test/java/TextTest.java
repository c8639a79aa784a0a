/** Promises 7 to 9 and 13: the buffer, the events read from it, the place of an error, describe. */
final class TextTest {
    public static void main(String[] args) {
        append();
        addEvent();
        errors();
        manyEvents();
        describe();
        Check.end();
    }

    private static void append() {
        TimetableBuilder x = new TimetableBuilder();
        Check.due("four bytes", 4, () -> x.append(0x303A302C));
        Check.due("zero bytes are skipped", 5, () -> x.append(0x00310000));
        Check.due("nothing", 5, () -> x.append(0));
        Check.due("the order is from the most significant byte", 7, () -> x.append(0x2A000032));
        Check.due("and gives an event", 0, x::addEvent);
        Check.same("as typed", "0:0,1*2", Check.describe(x, 0));
        Check.fails("32 is too low", Check.ARGUMENT, () -> x.append(0x20));
        Check.fails("127 is too high", Check.ARGUMENT, () -> x.append(0x7F000000));
        Check.fails("bytes are not negative", Check.ARGUMENT, () -> x.append(0x30FF3030));
        Check.fails("1 is too low", Check.ARGUMENT, () -> x.append(1));
        Check.due("nothing came of it", 0, () -> x.count(3));
        Check.due("33 and 126 are allowed", 2, () -> x.append(0x217E));
        for (int i = 0; i < 9; i++) {
            x.append(0x41424344);
        }
        Check.due("38", 38, () -> x.count(3));
        Check.fails("three more", Check.STATE, () -> x.append(0x414243));
        Check.fails("a wrong byte counts first", Check.ARGUMENT, () -> x.append(0x41424320));
        Check.due("none of the three", 38, () -> x.count(3));
        Check.due("two more", 40, () -> x.append(0x41420000));
        Check.fails("one more", Check.STATE, () -> x.append(0x41));
        Check.due("nothing more", 40, () -> x.append(0));
        Check.due("append is no change", 1, () -> x.count(4));
    }

    private static void addEvent() {
        TimetableBuilder x = new TimetableBuilder();
        reads(x, "5:5", 5, 32, 0, 1);
        reads(x, "0:0,1,2,3,4,5", 0, 63, 0, 1);
        reads(x, "3:1,4/0", 3, 18, 0, 1);
        reads(x, "3:1,4/9*1", 3, 18, 9, 1);
        reads(x, "3:1,4/10", 3, 18, 10, 1);
        reads(x, "3:0/15*2", 3, 1, 15, 2);
        reads(x, "3:0*2", 3, 1, 0, 2);
        Check.due("the numbers go up", 7, () -> Check.add(x, "1:1"));
        Check.due("not placed", -1, () -> x.event(7, 5));
        Check.due("not fixed", 0, () -> x.event(7, 6));
        Check.due("not marked", -1, () -> x.marked(7));
        Check.due("the buffer is empty", 0, () -> x.count(3));
    }

    private static void reads(TimetableBuilder x, String text, int teacher, int groups, int needs, int length) {
        int event = Check.add(x, text);
        Check.due(text + " is the latest", x.count(0) - 1, () -> event);
        Check.due(text + " teacher", teacher, () -> x.event(event, 0));
        Check.due(text + " groups", groups, () -> x.event(event, 1));
        Check.due(text + " needs", needs, () -> x.event(event, 2));
        Check.due(text + " length", length, () -> x.event(event, 3));
        Check.due(text + " has no error", -1, x::errorPosition);
    }

    private static void errors() {
        TimetableBuilder x = new TimetableBuilder();
        String[] texts = {"", "6:0", "a:0", ":0", "0", "00:1", "0;1", "0:", "0:6", "0:a", "0:,1", "0:0,", "0:0,0", "0:3,2",
            "0:0,6", "0:01", "0:0,1,2,3,4,5,", "0:0,1,2,3,4,5,5", "0:0/", "0:0/a", "0:0/*1", "0:0/00", "0:0/05", "0:0/16",
            "0:0/20", "0:0/99*3", "0:0/155", "0:0/165", "0:0/15,1", "0:0/1/1", "0:0*", "0:0*0", "0:0*3", "0:0*a", "0:0*12",
            "0:0*2/3", "0:0*2*2", "0:0/7*", "0:0!", "0:0/7*2x", "0:5,", "0:0,1/", "0:0/1x", "0:0/0*3"};
        int[] positions = {0, 0, 0, 0, 1, 1, 1, 2, 2, 2, 2, 4, 4, 4,
            4, 3, 14, 14, 4, 4, 4, 5, 5, 4,
            4, 4, 6, 4, 6, 5, 4, 4, 4, 4, 5,
            5, 5, 6, 3, 7, 4, 6, 5, 6};
        Check.due("a position each", texts.length, () -> positions.length);
        for (int i = 0; i < texts.length; i++) {
            String text = texts[i];
            int position = positions[i];
            Check.fails("\"" + text + "\"", Check.ARGUMENT, () -> Check.add(x, text));
            Check.due("the error of \"" + text + "\"", position, x::errorPosition);
            Check.due("the buffer after \"" + text + "\"", 0, () -> x.count(3));
        }
        Check.due("no event came of it", 0, () -> x.count(0));
        Check.due("and no change", 0, () -> x.count(4));
        Check.add(x, "0:0");
        Check.due("no error any more", -1, x::errorPosition);
        Check.type(x, "0:0,!");
        Check.due("append reads nothing", -1, x::errorPosition);
    }

    private static void manyEvents() {
        TimetableBuilder x = new TimetableBuilder();
        for (int event = 0; event < 14; event++) {
            int k = event;
            Check.due("event " + k, k, () -> Check.add(x, "0:0"));
        }
        Check.type(x, "0:x");
        Check.fails("a text with an error counts first", Check.ARGUMENT, x::addEvent);
        Check.due("its position", 2, x::errorPosition);
        Check.type(x, "0:0");
        Check.fails("a fifteenth event", Check.STATE, x::addEvent);
        Check.due("that text had no error", -1, x::errorPosition);
        Check.due("the buffer is empty all the same", 0, () -> x.count(3));
        Check.due("fourteen events", 14, () -> x.count(0));
        Check.due("six changes", 6, () -> x.count(4));
    }

    private static void describe() {
        String[] texts = {"0:0", "5:5", "1:0,2,4", "2:1/1", "2:1/15", "3:1*2", "4:0,1,2,3,4,5/10*2"};
        TimetableBuilder x = Check.with(texts);
        for (int event = 0; event < texts.length; event++) {
            Check.same("describe", texts[event], Check.describe(x, event));
        }
        Check.same("features 0 are not written", "0:1", Check.describe(x, Check.add(x, "0:1/0*1")));
        Check.due("a length", 18, () -> x.describe(6, -1));
        Check.due("the last character", '2', () -> x.describe(6, 17));
        Check.fails("index behind the end", Check.INDEX, () -> x.describe(6, 18));
        Check.fails("index -2", Check.INDEX, () -> x.describe(6, -2));
        Check.fails("index 3", Check.INDEX, () -> x.describe(0, 3));
        Check.fails("event -1", Check.INDEX, () -> x.describe(-1, -1));
        Check.fails("event 8", Check.INDEX, () -> x.describe(8, 0));
    }
}
