/**
 * The boundary cases of promises 7 to 9 and 13, and of "Text" in the description.
 * A comment before a test is the sentence that it tests.
 */
final class TextBoundsTest {
    private static final String DIGITS = "0123456789";
    private static final Refusals SCENE = new Refusals(Scene::rich);
    private static final Refusals FULL = new Refusals(Scene::full);

    public static void main(String[] args) {
        everyByte();
        bytesThatAreNothing();
        fromTheMostSignificantByte();
        badBytesLeaveNothing();
        fortyCharacters();
        badBytesComeFirst();
        fullAndEmptyAgain();
        fourteenEvents();
        roomAgain();
        emptyAfterwards();
        newEventsAreNotPlaced();
        refusedTexts();
        positionAtFirst();
        positionOfTheMostRecentText();
        positionStays();
        grammar();
        groupsInAscendingOrder();
        endsTooEarly();
        featuresAboveFifteen();
        secondDigits();
        values();
        firstErrorCounts();
        describeLimits();
        describeRefuses();
        describeWhatIsNotNothing();
        Check.end();
    }

    private static TimetableBuilder holding(int characters) {
        TimetableBuilder x = new TimetableBuilder();
        for (int i = 0; i < characters; i++) {
            x.append('0');
        }
        return x;
    }

    /** The position of the error in this text alone, or -1. */
    private static int errorIn(String text) {
        TimetableBuilder x = new TimetableBuilder();
        Check.type(x, text);
        String answer = Check.answer(x::addEvent);
        int position = x.errorPosition();
        Check.same("P8 addEvent of \"" + text + "\"", position == -1 ? "0" : "IllegalArgumentException", answer);
        Check.due("P8 events after \"" + text + "\"", position == -1 ? 1 : 0, () -> x.count(0));
        Check.due("P8 the buffer after \"" + text + "\"", 0, () -> x.count(3));
        return position;
    }

    private static void error(String text, int position) {
        Check.due("P9 the error in \"" + text + "\"", position, () -> errorIn(text));
    }

    // "Throws IllegalArgumentException if a byte that is not 0 is not from 33 to 126"

    private static void everyByte() {
        for (int shift = 0; shift <= 24; shift += 8) {
            for (int sign = 1; sign <= 255; sign++) {
                TimetableBuilder x = new TimetableBuilder();
                int packed = sign << shift;
                boolean good = sign >= 33 && sign <= 126;
                String want = good ? "1" : "IllegalArgumentException";
                Check.same("P7 byte " + sign + " at bit " + shift, want, Check.answer(() -> x.append(packed)));
                Check.due("P7 characters then", good ? 1 : 0, () -> x.count(3));
            }
        }
    }

    // "where bytes that are 0 are skipped"

    private static void bytesThatAreNothing() {
        int[] bytes = {0x21000000, 0x7E0000, 0x2100, 0x7E};
        for (int set = 0; set < 16; set++) {
            int packed = 0;
            for (int i = 0; i < 4; i++) {
                packed |= (set >> i & 1) * bytes[i];
            }
            int all = packed;
            TimetableBuilder x = holding(2);
            Check.due("P7 only bytes that are not 0 count", 2 + Integer.bitCount(set), () -> x.append(all));
            Check.due("P7 in count too", 2 + Integer.bitCount(set), () -> x.count(3));
        }
    }

    // "the bytes of an int from the most significant one to the least significant one"

    private static void fromTheMostSignificantByte() {
        String text = "5:0,4/12*2";
        for (int shift = 0; shift <= 24; shift += 8) {
            TimetableBuilder x = new TimetableBuilder();
            for (char sign : text.toCharArray()) {
                x.append(sign << shift);
            }
            x.addEvent();
            Check.same("P7 one at a time, at bit " + shift, text, Check.describe(x, 0));
        }
        TimetableBuilder y = new TimetableBuilder();
        y.append('5' << 24 | ':' << 16 | '0' << 8 | ',');
        y.append('4' << 24 | '/');
        y.append('1' << 16 | '2' << 8);
        y.append('*' << 16 | '2');
        y.addEvent();
        Check.same("P7 in their order", text, Check.describe(y, 0));
    }

    private static void badBytesLeaveNothing() {
        for (int bad : new int[] {1, 32, 127, 128, 255}) {
            for (int shift = 0; shift <= 24; shift += 8) {
                int packed = 0x2C2C2C2C & ~(255 << shift) | bad << shift;
                SCENE.argument("P7 byte " + bad + " at bit " + shift + " among good ones", x -> x.append(packed));
            }
        }
        SCENE.argument("P7 all bits", x -> x.append(-1));
        SCENE.argument("P7 the least int", x -> x.append(Integer.MIN_VALUE));
    }

    // "A buffer holds at most 40 characters.", "IllegalStateException if there would be more than 40 characters"

    private static void fortyCharacters() {
        int[] packed = {0, 0x30000000, 0x300031, 0x30313200, 0x30313233};
        for (int held = 35; held <= 40; held++) {
            int h = held;
            Refusals there = new Refusals(() -> holding(h));
            for (int more = 0; more <= 4; more++) {
                int k = more;
                String what = "P7 " + k + " characters to " + h;
                if (h + k > 40) {
                    there.state(what, x -> x.append(packed[k]));
                } else {
                    Check.due(what, h + k, () -> holding(h).append(packed[k]));
                }
            }
        }
    }

    private static void badBytesComeFirst() {
        Refusals there = new Refusals(() -> holding(40));
        there.argument("P7 a bad byte in a full buffer", x -> x.append(0x20));
        there.argument("P7 a good byte and a bad one", x -> x.append(0x307F0000));
        there.asks("P7 nothing in a full buffer", 40, x -> x.append(0));
    }

    private static void fullAndEmptyAgain() {
        TimetableBuilder x = holding(40);
        Check.fails("P8 40 characters are no event", Check.ARGUMENT, x::addEvent);
        Check.due("P9 its position", 1, x::errorPosition);
        for (int i = 1; i <= 40; i++) {
            int k = i;
            Check.due("P7 all 40 have room again", k, () -> x.append('1'));
        }
        Check.fails("P7 and no more", Check.STATE, () -> x.append('1'));
    }

    // "Throws IllegalArgumentException if there is an error in the text, IllegalStateException if there are 14 events"

    private static void fourteenEvents() {
        TimetableBuilder x = new TimetableBuilder();
        for (int event = 0; event < 14; event++) {
            int k = event;
            Check.due("P8 event " + k, k, () -> Check.add(x, "0:0"));
        }
        FULL.failsButReads("P8 a fifteenth event", Check.STATE, TimetableBuilder::addEvent);
        Refusals wrong = new Refusals(TextBoundsTest::fullWithAnError);
        wrong.failsButReads("P8 an error comes before the events", Check.ARGUMENT, TimetableBuilder::addEvent);
        TimetableBuilder y = fullWithAnError();
        Check.fails("P8 the error", Check.ARGUMENT, y::addEvent);
        Check.due("P9 its position", 5, y::errorPosition);
    }

    private static TimetableBuilder fullWithAnError() {
        TimetableBuilder x = Scene.full();
        x.append('x');
        return x;
    }

    private static void roomAgain() {
        TimetableBuilder x = Scene.full();
        x.removeEvent(4);
        Check.due("P8 there is room for one event", 13, x::addEvent);
        Check.same("P8 the one in the buffer", "3:0/9", Check.describe(x, 13));
        Check.type(x, "0:1");
        Check.fails("P8 and not for two", Check.STATE, x::addEvent);
        Check.due("P8 14 events", 14, () -> x.count(0));
    }

    // "The buffer is empty afterwards, also if an exception is thrown."

    private static void emptyAfterwards() {
        TimetableBuilder x = Scene.full();
        Check.fails("P8 too many events", Check.STATE, x::addEvent);
        Check.due("P8 the buffer is empty", 0, () -> x.count(3));
        Check.fails("P8 so that there is no text", Check.ARGUMENT, x::addEvent);
        Check.due("P9 which ends too early", 0, x::errorPosition);
        x.removeEvent(0);
        Check.due("P7 one character", 1, () -> x.append('0'));
        Check.fails("P8 an error", Check.ARGUMENT, x::addEvent);
        Check.due("P8 the buffer is empty after an error", 0, () -> x.count(3));
        Check.due("P8 an event", 13, () -> Check.add(x, "4:4"));
        Check.due("P8 the buffer is empty after an event", 0, () -> x.count(3));
        Check.same("P8 nothing else was read", "4:4", Check.describe(x, 13));
    }

    // "Adds the event that the text in the buffer describes; it is not placed."

    private static void newEventsAreNotPlaced() {
        TimetableBuilder x = Scene.rich();
        Check.due("P8 its number is that of the events before", 9, x::addEvent);
        Check.same("P8 as described", "2:1,3/7*2", Check.describe(x, 9));
        Check.due("P8 not placed", -1, () -> x.event(9, 5));
        Check.due("P8 not fixed", 0, () -> x.event(9, 6));
        Check.due("P8 not in the marked table", -1, () -> x.marked(9));
        Check.due("P9 no error", -1, x::errorPosition);
        Check.due("P8 takes nothing", 4, () -> x.taken(0, 2));
    }

    private static void refusedTexts() {
        for (String behind : new String[] {"x", "*2", "/", ",4"}) {
            Refusals there = new Refusals(() -> {
                TimetableBuilder x = Scene.rich();
                Check.type(x, behind);
                return x;
            });
            there.failsButReads("P8 \"" + behind + "\" behind an event", Check.ARGUMENT, TimetableBuilder::addEvent);
        }
    }

    // "Returns the index of the character, or -1 if that text had no error or addEvent was not called."

    private static void positionAtFirst() {
        TimetableBuilder x = new TimetableBuilder();
        Check.due("P9 not called", -1, x::errorPosition);
        Check.type(x, "x");
        Check.due("P9 not called for the text in the buffer", -1, x::errorPosition);
        Check.fails("P8 called", Check.ARGUMENT, x::addEvent);
        Check.due("P9 the least position", 0, x::errorPosition);
        Check.due("P9 asked again", 0, x::errorPosition);
    }

    // "the position of the error in the text that addEvent read most recently"

    private static void positionOfTheMostRecentText() {
        TimetableBuilder x = Scene.full();
        Check.fails("P8 too many events", Check.STATE, x::addEvent);
        Check.due("P9 that text had no error", -1, x::errorPosition);
        Check.fails("P8 an error", Check.ARGUMENT, () -> Check.add(x, "0:0,1/99"));
        Check.due("P9 the first digit", 6, x::errorPosition);
        Check.fails("P8 another error", Check.ARGUMENT, () -> Check.add(x, "00"));
        Check.due("P9 the latter one", 1, x::errorPosition);
        Check.fails("P8 no error, but too many events", Check.STATE, () -> Check.add(x, "0:0"));
        Check.due("P9 so none", -1, x::errorPosition);
        Check.fails("P8 an error once more", Check.ARGUMENT, () -> Check.add(x, "0"));
        Check.due("P9 at the end", 1, x::errorPosition);
        x.removeEvent(13);
        Check.due("P8 an event", 13, () -> Check.add(x, "0:0"));
        Check.due("P9 none again", -1, x::errorPosition);
    }

    private static void positionStays() {
        TimetableBuilder x = Scene.rich();
        Check.due("P9 the error", 4, x::errorPosition);
        x.append('x');
        x.undo();
        x.save();
        x.restore();
        x.setRoom(0, 50, 0);
        x.removeEvent(0);
        x.build();
        Check.due("P9 only addEvent reads", 4, x::errorPosition);
        Check.fails("P8 an error elsewhere", Check.ARGUMENT, x::addEvent);
        Check.due("P9 now there", 9, x::errorPosition);
    }

    // "event = teacher ":" group { "," group } [ "/" features ] [ "*" length ]", "the index of the first character
    // that is not allowed"

    private static void grammar() {
        follows("", "012345", false);
        for (int digit = 0; digit <= 5; digit++) {
            follows("" + digit, ":", false);
            follows("3:" + digit, ",/*", true);
            follows("3:" + digit + ",", "012345".substring(digit + 1), false);
        }
        follows("0:", "012345", false);
        follows("5:0,1,2,3,4", ",/*", true);
        follows("5:0,1,2,3,4,", "5", false);
        follows("5:0,1,2,3,4,5", ",/*", true);
        follows("5:0,1,2,3,4,5,", "", false);
        follows("5:0,1,2,3,4,5/", DIGITS, false);
        follows("0:0/", DIGITS, false);
        follows("0:0/0", "*", true);
        follows("0:0/1", DIGITS + "*", true);
        for (int value = 10; value <= 15; value++) {
            follows("0:0/" + value, "*", true);
        }
        follows("0:0/9", DIGITS + "*", true);
        follows("0:0*", "12", false);
        follows("0:0/0*", "12", false);
        follows("0:0/15*", "12", false);
        follows("0:0*1", "", true);
        follows("0:0*2", "", true);
        follows("0:0,1/7*2", "", true);
    }

    /** Which characters may stand behind these, and whether the text may end there. */
    private static void follows(String text, String allowed, boolean ends) {
        error(text, ends ? -1 : text.length());
        for (char sign = 33; sign <= 126; sign++) {
            if (allowed.indexOf(sign) < 0) {
                error(text + sign, text.length());
                error(text + sign + "0", text.length());
            } else {
                int position = errorIn(text + sign);
                boolean passes = position == -1 || position == text.length() + 1 || DIGITS.indexOf(sign) >= 0
                    && position == text.length() - 1;
                Check.due("P9 \"" + sign + "\" is allowed behind \"" + text + "\"", true, passes);
            }
        }
    }

    // "also a group that is not greater than the one before it"

    private static void groupsInAscendingOrder() {
        for (int first = 0; first <= 5; first++) {
            for (int second = 0; second <= 5; second++) {
                error("0:" + first + "," + second, second > first ? -1 : 4);
            }
        }
        error("0:1,3,3", 6);
        error("0:1,3,2", 6);
        error("0:1,3,1", 6);
        error("0:1,3,4", -1);
        error("0:0,1,2,3,4,5", -1);
        error("0:0,1,2,3,4,4", 12);
        error("0:0,1,2,3,4,5,5", 14);
    }

    // "or the length of the text if it ends too early"

    private static void endsTooEarly() {
        String text = "5:0,1,2,3,4,5/15*2";
        String ends = "..!.!.!.!.!.!.!!.!";
        error("", 0);
        for (int length = 1; length <= text.length(); length++) {
            error(text.substring(0, length), ends.charAt(length - 1) == '!' ? -1 : length);
        }
    }

    // "features above 15 are an error at their first digit"

    private static void featuresAboveFifteen() {
        for (int value = 10; value <= 99; value++) {
            error("0:0/" + value, value <= 15 ? -1 : 4);
            error("0:0/" + value + "*2", value <= 15 ? -1 : 4);
            error("0:0,5/" + value, value <= 15 ? -1 : 6);
        }
        error("0:0/16*3", 4);
        error("0:0/16x", 4);
        error("0:0/165", 4);
    }

    // "one or two digits that do not start with 0, or 0 alone", "A second digit of features is always read."

    private static void secondDigits() {
        for (char second : DIGITS.toCharArray()) {
            error("0:0/0" + second, 5);
            error("0:0/1" + second, second <= '5' ? -1 : 4);
            error("0:0/2" + second, 4);
            error("0:0/9" + second, 4);
            error("0:0/15" + second, 6);
            error("0:0/10" + second, 6);
        }
        error("0:0/0*2", -1);
        error("0:0/000", 5);
        error("0:0/00*2", 5);
    }

    // "Without features it needs none, and without a length it has the length 1."

    private static void values() {
        for (int value = 0; value <= 15; value++) {
            is("1:2/" + value, 1, 4, value, 1);
            is("1:2/" + value + "*2", 1, 4, value, 2);
        }
        for (int number = 0; number <= 5; number++) {
            is(number + ":" + number, number, 1 << number, 0, 1);
        }
        is("4:3*1", 4, 8, 0, 1);
        is("4:3*2", 4, 8, 0, 2);
        is("0:0,1,2,3,4,5/15*2", 0, 63, 15, 2);
    }

    private static void is(String text, int teacher, int groups, int needs, int length) {
        TimetableBuilder x = Check.with(text);
        int[] due = {teacher, groups, needs, length};
        for (int what = 0; what <= 3; what++) {
            int k = what;
            Check.due("P8 property " + k + " of \"" + text + "\"", due[k], () -> x.event(0, k));
        }
    }

    // "The position of an error is the index of the first character that is not allowed"

    private static void firstErrorCounts() {
        error("6:6/16*3", 0);
        error("5:6/16*3", 2);
        error("5:5/16*3", 4);
        error("5:5/15*3", 7);
        error("5;6", 1);
        error("5:5*3/16", 4);
        error("5:5*2/16", 5);
        error("5:5*2*2", 5);
        error("5:5/5/5", 5);
        error("5:5/*2", 4);
        error("5:/5", 2);
        error("5:,5", 2);
        error("5:1,,2", 4);
        error("05:5", 1);
        error("5:12", 3);
        error("5::1", 2);
    }

    // "index: the index, from 0, or -1 for the length", "if ... index is not -1 and there is no such index"

    private static void describeLimits() {
        for (String text : new String[] {"0:5", "0:0/9", "0:0*2", "0:0,1,2,3,4,5/15*2"}) {
            TimetableBuilder x = Check.with(text);
            Check.due("P13 the length", text.length(), () -> x.describe(0, -1));
            for (int index = 0; index < text.length(); index++) {
                int k = index;
                Check.due("P13 character " + k, text.charAt(k), () -> x.describe(0, k));
            }
            Refusals there = new Refusals(() -> Check.with(text));
            for (int index : new int[] {-2, text.length(), text.length() + 1, Integer.MIN_VALUE, Integer.MAX_VALUE}) {
                there.index("P13 index " + index + " of " + text, y -> y.describe(0, index));
            }
        }
    }

    private static void describeRefuses() {
        for (int event : new int[] {-1, 9, 14, Integer.MIN_VALUE, Integer.MAX_VALUE}) {
            SCENE.index("P13 the length of event " + event, x -> x.describe(event, -1));
            SCENE.index("P13 event " + event, x -> x.describe(event, 0));
        }
        SCENE.index("P13 behind the last one", x -> x.describe(8, 3));
        SCENE.asks("P13 the last one", '1', x -> x.describe(8, 2));
        SCENE.asks("P13 the length of the last event", 3, x -> x.describe(8, -1));
    }

    // "Features are written if they are not 0, and the length if it is 2."

    private static void describeWhatIsNotNothing() {
        String[] typed = {"0:1/0*1", "0:1/0*2", "0:1/1*1", "0:1/10*1", "0:1*1", "0:1/0", "5:0,5/9*2"};
        String[] due = {"0:1", "0:1*2", "0:1/1", "0:1/10", "0:1", "0:1", "5:0,5/9*2"};
        TimetableBuilder x = Check.with(typed);
        for (int event = 0; event < typed.length; event++) {
            Check.same("P13 " + typed[event], due[event], Check.describe(x, event));
        }
        int last = x.split(6, 1);
        Check.same("P13 what is left", "5:5/9*2", Check.describe(x, 6));
        Check.same("P13 what left it", "5:0/9*2", Check.describe(x, last));
    }
}
