import java.util.NoSuchElementException;

/** What all tests use: a call, the answer or the exception that is due, and builders with events in them. */
final class Check {
    static final Class<? extends RuntimeException> INDEX = IndexOutOfBoundsException.class;
    static final Class<? extends RuntimeException> ARGUMENT = IllegalArgumentException.class;
    static final Class<? extends RuntimeException> STATE = IllegalStateException.class;
    static final Class<? extends RuntimeException> UNSUPPORTED = UnsupportedOperationException.class;
    static final Class<? extends RuntimeException> NO_ELEMENT = NoSuchElementException.class;

    private static int checked = 0;
    private static int wrong = 0;

    interface Call {
        long answer();
    }

    private Check() {
    }

    static void due(String what, long want, Call call) {
        checked++;
        try {
            long got = call.answer();
            if (got != want) {
                report(what + " answered " + got + ", due is " + want);
            }
        } catch (RuntimeException e) {
            report(what + " threw " + e + ", due is " + want);
        }
    }

    static void due(String what, boolean want, boolean got) {
        due(what, want ? 1 : 0, () -> got ? 1 : 0);
    }

    /** The exception is of this very class, so that none of the machine's own (they are subclasses) passes. */
    static void fails(String what, Class<? extends RuntimeException> want, Call call) {
        checked++;
        try {
            report(what + " answered " + call.answer() + ", due is " + want.getName());
        } catch (RuntimeException e) {
            if (e.getClass() != want || !madeByTheClass(e)) {
                report(what + " threw " + e + ", due is " + want.getName());
            }
        }
    }

    /** The answer, or the name of the exception. */
    static String answer(Call call) {
        try {
            return Long.toString(call.answer());
        } catch (RuntimeException e) {
            return madeByTheClass(e) ? e.getClass().getSimpleName() : "machine " + e;
        }
    }

    static boolean madeByTheClass(RuntimeException e) {
        StackTraceElement[] trace = e.getStackTrace();
        return trace.length > 0 && trace[0].getClassName().startsWith("TimetableBuilder");
    }

    static void report(String text) {
        wrong++;
        if (wrong <= 50) {
            System.out.println(text);
        }
    }

    static void end() {
        System.out.println(checked + " checked, " + wrong + " wrong");
        if (wrong != 0 || checked == 0) {
            System.exit(1);
        }
    }

    /** Puts the text into the buffer, four characters a call. */
    static void type(TimetableBuilder x, String text) {
        for (int from = 0; from < text.length(); from += 4) {
            int packed = 0;
            for (int i = from; i < Math.min(from + 4, text.length()); i++) {
                packed = packed << 8 | text.charAt(i);
            }
            x.append(packed);
        }
    }

    static int add(TimetableBuilder x, String text) {
        type(x, text);
        return x.addEvent();
    }

    static TimetableBuilder with(String... texts) {
        TimetableBuilder x = new TimetableBuilder();
        for (String text : texts) {
            add(x, text);
        }
        return x;
    }

    static String describe(TimetableBuilder x, int event) {
        StringBuilder text = new StringBuilder();
        int length = x.describe(event, -1);
        for (int i = 0; i < length; i++) {
            text.append((char) x.describe(event, i));
        }
        return text.toString();
    }

    /** The places of all events, in their order. */
    static String places(TimetableBuilder x) {
        StringBuilder text = new StringBuilder();
        for (int event = 0; event < x.count(0); event++) {
            text.append(event == 0 ? "" : " ").append(x.event(event, 5));
        }
        return text.toString();
    }

    static void same(String what, String want, String got) {
        checked++;
        if (!want.equals(got)) {
            report(what + " is \"" + got + "\", due is \"" + want + "\"");
        }
    }

    /** Numbers that are not from 0 to one below this. */
    static int[] outside(int bound) {
        return new int[] {-1, bound, Integer.MIN_VALUE, Integer.MAX_VALUE};
    }

    /** Only these rooms keep a capacity. */
    static void onlyRooms(TimetableBuilder x, int... rooms) {
        for (int room = 0; room < 6; room++) {
            boolean kept = false;
            for (int one : rooms) {
                kept |= one == room;
            }
            if (!kept) {
                x.setRoom(room, 0, 0);
            }
        }
    }
}
