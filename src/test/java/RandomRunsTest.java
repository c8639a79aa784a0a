import java.util.Map;
import java.util.Random;
import java.util.TreeMap;

/**
 * Runs of 512 calls, each answered by the class and by the Model: all promises at once, in mixed states.
 * A number of runs can be given as an argument.
 */
final class RandomRunsTest {
    private static final int CALLS = 512;
    private static final int RUNS = 240;
    private static final Map<String, Integer> SEEN = new TreeMap<>();

    private final Random random;
    private final TimetableBuilder x = new TimetableBuilder();
    private final Model m = new Model();
    private final StringBuilder log = new StringBuilder();
    private final boolean tight;
    private final int rooms;
    private final int teacherSlots;
    private final int wildness;
    private int calls = 0;

    private interface Pair {
        long of(boolean real);
    }

    private RandomRunsTest(int seed) {
        random = new Random(seed);
        tight = seed % 2 == 1;
        rooms = 1 + random.nextInt(tight ? 2 : 6);
        teacherSlots = 1 + random.nextInt(4);
        wildness = random.nextInt(3) * 15;
    }

    public static void main(String[] args) {
        int runs = args.length == 0 ? RUNS : Integer.parseInt(args[0]);
        for (int seed = 0; seed < runs; seed++) {
            new RandomRunsTest(seed).run(seed);
        }
        // Without these the runs would compare too little.
        for (String wanted : new String[] {"insert 0", "insert 1", "insert 2", "insert UnsupportedOperationException",
            "exchange 1", "exchange 2", "exchange 3", "exchange 4", "exchange UnsupportedOperationException", "improve 5",
            "improve 0", "undo 0", "undo 5", "restore IllegalStateException", "addEvent IllegalStateException",
            "append IllegalStateException", "place UnsupportedOperationException", "obstacle 7", "setRoom 1", "setTeacher 1"}) {
            Check.due("seen often: " + wanted, true, SEEN.getOrDefault(wanted, 0) >= 10);
        }
        Check.end();
    }

    private void run(int seed) {
        boolean same = true;
        for (int room = rooms; room < 6 && same; room++) {
            int k = room;
            same = compare("setRoom(" + k + ", 0, 0)", "setRoom", r -> r ? x.setRoom(k, 0, 0) : m.setRoom(k, 0, 0));
        }
        for (int teacher = 0; tight && teacher < 6 && same; teacher++) {
            int k = teacher;
            int s = 15 | random.nextInt(1024) & random.nextInt(1024);
            same = compare("setTeacher(" + k + ", " + s + ")", "setTeacher",
                r -> r ? x.setTeacher(k, s) : m.setTeacher(k, s));
        }
        for (int i = 0; i < 10 && same; i++) {
            same = newEvent();
        }
        while (same && calls < CALLS) {
            same = random.nextInt(100) < 55 ? changing() : asking();
        }
        if (!same) {
            System.out.println("run " + seed + ":\n" + log);
        }
    }

    private boolean compare(String text, String name, Pair call) {
        if (calls == CALLS) {
            return true;
        }
        calls++;
        String want = answer(call, false);
        String got = answer(call, true);
        SEEN.merge(name + " " + got, 1, Integer::sum);
        log.append(text).append(" -> ").append(got).append('\n');
        Check.same(text, want, got);
        return want.equals(got);
    }

    private String answer(Pair call, boolean real) {
        try {
            return "" + call.of(real);
        } catch (RuntimeException e) {
            return real && !Check.madeByTheClass(e) ? "machine " + e : e.getClass().getSimpleName();
        }
    }

    /** Mostly a number below the bound, now and then one outside. */
    private int below(int bound) {
        int outside = random.nextInt(100);
        if (outside >= 4) {
            return random.nextInt(bound);
        }
        return new int[] {-1, bound, Integer.MIN_VALUE, Integer.MAX_VALUE}[outside];
    }

    private int someEvent() {
        int events = m.count(0);
        return events == 0 ? below(14) : below(events);
    }

    private int somePlace() {
        if (random.nextInt(3) == 0) {
            return below(60);
        }
        return 6 * random.nextInt(10) + random.nextInt(rooms);
    }

    private boolean newEvent() {
        StringBuilder text = new StringBuilder().append(random.nextInt(6)).append(':');
        int groups = 1 + random.nextInt(63);
        if (random.nextInt(4) != 0) {
            groups = 1 << random.nextInt(6) | 1 << random.nextInt(tight ? 1 : 6);
        }
        char sign = 0;
        for (int group = 0; group < 6; group++) {
            if ((groups >> group & 1) != 0) {
                text.append(sign == 0 ? "" : ",").append(group);
                sign = ',';
            }
        }
        if (random.nextInt(tight ? 20 : 4) == 0) {
            text.append('/').append(random.nextInt(3) == 0 ? random.nextInt(18) : 1 << random.nextInt(4));
        }
        if (random.nextInt(3) == 0) {
            text.append('*').append(random.nextInt(15) == 0 ? random.nextInt(4) : 1 + random.nextInt(2));
        }
        if (random.nextInt(100) < wildness) {
            String signs = "0123456789:,/*x";
            int at = random.nextInt(text.length() + 1);
            char c = signs.charAt(random.nextInt(signs.length()));
            if (random.nextBoolean() || at == text.length()) {
                text.insert(at, c);
            } else {
                text.setCharAt(at, c);
            }
        }
        return typeAndAdd(text.toString());
    }

    private boolean typeAndAdd(String text) {
        int i = 0;
        while (i < text.length()) {
            int packed = 0;
            for (int k = 0; k < 4; k++) {
                packed <<= 8;
                if (i < text.length() && random.nextInt(8) != 0) {
                    packed |= text.charAt(i++);
                }
            }
            int all = packed;
            if (!compare("append(" + all + ")", "append", r -> r ? x.append(all) : m.append(all))) {
                return false;
            }
        }
        if (random.nextInt(100) < wildness / 3) {
            return true;
        }
        return compare("addEvent()", "addEvent", r -> r ? x.addEvent() : m.addEvent())
            && compare("errorPosition()", "errorPosition", r -> r ? x.errorPosition() : m.errorPosition());
    }

    private boolean changing() {
        int e = someEvent();
        int p = somePlace();
        int what = random.nextInt(100);
        if (what < 6) {
            return random.nextInt(tight ? 4 : 1) == 0 ? setting() : insertAny();
        } else if (what < 12) {
            return newEvent();
        } else if (what < 15) {
            return compare("removeEvent(" + e + ")", "removeEvent", r -> r ? x.removeEvent(e) : m.removeEvent(e));
        } else if (what < 19) {
            int g = random.nextInt(4) == 0 ? below(64) : 1 << random.nextInt(7);
            return compare("split(" + e + ", " + g + ")", "split", r -> r ? x.split(e, g) : m.split(e, g));
        } else if (what < 36) {
            return compare("place(" + e + ", " + p + ")", "place", r -> r ? x.place(e, p) : m.place(e, p));
        } else if (what < 41) {
            return compare("unplace(" + e + ")", "unplace", r -> r ? x.unplace(e) : m.unplace(e));
        } else if (what < 46) {
            boolean f = random.nextInt(3) == 0;
            return compare("fix(" + e + ", " + f + ")", "fix", r -> (r ? x.fix(e, f) : m.fix(e, f)) ? 1 : 0);
        } else if (what < 62) {
            return insertAny();
        } else if (what < 66) {
            return compare("build()", "build", r -> r ? x.build() : m.build());
        } else if (what < 78) {
            int s = below(10);
            return compare("exchange(" + e + ", " + s + ")", "exchange", r -> r ? x.exchange(e, s) : m.exchange(e, s));
        } else if (what < 82) {
            int n = random.nextInt(7);
            return compare("improve(" + n + ")", "improve", r -> r ? x.improve(n) : m.improve(n));
        } else if (what < 85) {
            return compare("mark()", "mark", r -> r ? x.mark() : m.mark());
        } else if (what < 94) {
            return undoSome();
        } else if (what < 97) {
            return compare("save()", "save", r -> r ? x.save() : m.save());
        } else if (what == 97 && random.nextInt(100) < wildness) {
            return typeAndAdd("0:0,1/12*2".repeat(1 + random.nextInt(8)));
        }
        return compare("restore()", "restore", r -> r ? x.restore() : m.restore());
    }

    /** Most often an event that is not placed, if there is one. */
    private boolean insertAny() {
        int event = someEvent();
        for (int i = 0; i < 8 && event >= 0 && event < m.count(0) && m.event(event, 5) != -1; i++) {
            event = someEvent();
        }
        int e = event;
        return compare("insert(" + e + ")", "insert", r -> r ? x.insert(e) : m.insert(e));
    }

    private boolean undoSome() {
        boolean same = true;
        for (int times = random.nextInt(3) == 0 ? random.nextInt(8) : 1; same && times > 0; times--) {
            same = compare("undo()", "undo", r -> r ? x.undo() : m.undo());
        }
        return same;
    }

    private boolean setting() {
        int i = below(6);
        int kind = random.nextInt(4);
        if (kind == 0) {
            int room = random.nextInt(3) == 0 ? i : random.nextInt(rooms);
            int c = room >= rooms ? 0 : random.nextInt(4) == 0 ? below(100) : 20 + below(60);
            int f = random.nextInt(3) == 0 ? below(16) : 15 & ~(1 << random.nextInt(6));
            return compare("setRoom(" + room + ", " + c + ", " + f + ")", "setRoom",
                r -> r ? x.setRoom(room, c, f) : m.setRoom(room, c, f));
        } else if (kind == 1) {
            int n = random.nextInt(2) == 0 ? below(41) : random.nextInt(15);
            return compare("setGroup(" + i + ", " + n + ")", "setGroup", r -> r ? x.setGroup(i, n) : m.setGroup(i, n));
        } else if (kind == 2) {
            int slots = below(1024);
            for (int k = 1; k < teacherSlots; k++) {
                slots |= random.nextInt(1024);
            }
            int s = slots;
            return compare("setTeacher(" + i + ", " + s + ")", "setTeacher",
                r -> r ? x.setTeacher(i, s) : m.setTeacher(i, s));
        }
        int k = below(3);
        int w = below(10);
        return compare("setWeight(" + k + ", " + w + ")", "setWeight", r -> r ? x.setWeight(k, w) : m.setWeight(k, w));
    }

    private boolean asking() {
        int e = someEvent();
        int p = somePlace();
        int i = below(6);
        int s = below(10);
        int k = below(5);
        switch (random.nextInt(17)) {
            case 0:
                return compare("setting(" + k + ", " + i + ")", "setting", r -> r ? x.setting(k, i) : m.setting(k, i));
            case 1:
                int d = random.nextInt(3) == 0 ? -1 : below(12);
                return compare("describe(" + e + ", " + d + ")", "describe", r -> r ? x.describe(e, d) : m.describe(e, d));
            case 2:
            case 3:
                return compare("obstacle(" + e + ", " + p + ")", "obstacle", r -> r ? x.obstacle(e, p) : m.obstacle(e, p));
            case 4:
                int o = below(8);
                return compare("places(" + e + ", " + o + ")", "places", r -> r ? x.places(e, o) : m.places(e, o));
            case 5:
                int n = random.nextInt(2) == 0 ? below(4) : below(60);
                return compare("free(" + e + ", " + n + ")", "free", r -> r ? x.free(e, n) : m.free(e, n));
            case 6:
                return compare("hindering(" + e + ", " + p + ")", "hindering",
                    r -> r ? x.hindering(e, p) : m.hindering(e, p));
            case 7:
                return compare("at(" + s + ", " + i + ")", "at", r -> r ? x.at(s, i) : m.at(s, i));
            case 8:
                return compare("taken(" + k + ", " + i + ")", "taken", r -> r ? x.taken(k, i) : m.taken(k, i));
            case 9:
                return compare("chain(" + e + ", " + s + ")", "chain", r -> r ? x.chain(e, s) : m.chain(e, s));
            case 10:
            case 11:
                return compare("cost(" + k + ")", "cost", r -> r ? x.cost(k) : m.cost(k));
            case 12:
                return compare("costAt(" + e + ", " + p + ")", "costAt", r -> r ? x.costAt(e, p) : m.costAt(e, p));
            case 13:
                return compare("changed()", "changed", r -> r ? x.changed() : m.changed());
            case 14:
                return compare("marked(" + e + ")", "marked", r -> r ? x.marked(e) : m.marked(e));
            case 15:
                return compare("count(" + k + ")", "count", r -> r ? x.count(k) : m.count(k));
            default:
                int t = below(7);
                return compare("event(" + e + ", " + t + ")", "event", r -> r ? x.event(e, t) : m.event(e, t));
        }
    }
}
