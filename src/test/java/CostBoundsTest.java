/**
 * The boundary cases of promises 28 and 29, and of "Cost" in the description.
 * A comment before a test is the sentence that it tests.
 */
final class CostBoundsTest {
    private static final Refusals SCENE = new Refusals(Scene::rich);
    private static final Refusals FULL = new Refusals(Scene::full);

    public static void main(String[] args) {
        costRefuses();
        gapsOfEachDay();
        gapsOfEachGroup();
        gapsAndLongEvents();
        gapsAreNotOverNight();
        lateSlots();
        lateEvents();
        slackOfOne();
        slackOfEach();
        slackFollowsTheSettings();
        notPlacedOnes();
        allWeights();
        costAtRefuses();
        costAtOfPlacedOnes();
        costAtOfNotPlacedOnes();
        costAtIsWhatPlaceMakes();
        Check.end();
    }

    // "Throws IllegalArgumentException if what is not from 0 to 4"

    private static void costRefuses() {
        for (int what : Check.outside(5)) {
            SCENE.argument("P28 what " + what, x -> x.cost(what));
        }
        int[] due = {1, 1, 2 + 3 + 8 + 1, 5, 2 * 1 + 4 * 1 + 5 * 14 + 100 * 5};
        for (int what = 0; what <= 4; what++) {
            int k = what;
            SCENE.asks("P28 part " + k, due[k], x -> x.cost(k));
        }
    }

    // "The gaps are, for all groups and both days, the slots of the day that no event of the group takes, but before
    // and after which events of the group take slots of this day."

    private static void gapsOfEachDay() {
        for (int day = 0; day <= 1; day++) {
            for (int set = 0; set < 32; set++) {
                TimetableBuilder x = Check.with("0:3", "1:3", "2:3", "3:3", "4:3", "5:2");
                for (int slot = 0; slot < 5; slot++) {
                    if ((set >> slot & 1) != 0) {
                        x.place(slot, 30 * day + 6 * slot);
                    }
                }
                x.place(5, 30 * day + 6 * 2 + 5);
                int all = set;
                int span = set == 0 ? 0 : Integer.highestOneBit(set) * 2 - Integer.lowestOneBit(set);
                Check.due("P28 gaps of " + set + " on day " + day, Integer.bitCount(span & ~all), () -> x.cost(0));
            }
        }
    }

    private static void gapsOfEachGroup() {
        for (int set = 1; set < 64; set++) {
            StringBuilder groups = new StringBuilder();
            for (int group = 0; group < 6; group++) {
                if ((set >> group & 1) != 0) {
                    groups.append(groups.length() == 0 ? "" : ",").append(group);
                }
            }
            TimetableBuilder x = Check.with("0:0,1,2,3,4,5", "1:" + groups);
            x.setRoom(0, 60, 0);
            x.place(0, 0);
            x.place(1, 24);
            Check.due("P28 three gaps for each of the groups " + set, 3 * Integer.bitCount(set), () -> x.cost(0));
            x.place(1, 12);
            Check.due("P28 one gap for each", Integer.bitCount(set), () -> x.cost(0));
            x.place(1, 6);
            Check.due("P28 no gap", 0, () -> x.cost(0));
        }
        TimetableBuilder y = Check.with("0:0", "0:1");
        y.place(0, 0);
        y.place(1, 24);
        Check.due("P28 a teacher has no gaps", 0, () -> y.cost(0));
    }

    private static void gapsAndLongEvents() {
        TimetableBuilder x = Check.with("0:0*2", "1:0", "2:0*2");
        x.place(0, 0);
        x.place(1, 24);
        Check.due("P28 behind its second slot", 2, () -> x.cost(0));
        x.place(0, 6);
        Check.due("P28 one slot later", 1, () -> x.cost(0));
        x.place(0, 12);
        Check.due("P28 up to the next one", 0, () -> x.cost(0));
        x.place(0, 0);
        x.place(2, 12);
        Check.due("P28 a long one closes two", 0, () -> x.cost(0));
        x.place(2, 42);
        x.place(1, 30);
        Check.due("P28 before its first slot", 1, () -> x.cost(0));
        x.unplace(2);
        Check.due("P28 one that is not placed takes no slot", 0, () -> x.cost(0));
    }

    private static void gapsAreNotOverNight() {
        TimetableBuilder x = Check.with("0:0", "1:0");
        for (int slot = 0; slot < 5; slot++) {
            for (int other = 5; other < 10; other++) {
                x.place(0, 6 * slot);
                x.place(1, 6 * other);
                Check.due("P28 slots " + slot + " and " + other, 0, () -> x.cost(0));
            }
        }
        TimetableBuilder y = Check.with("0:0", "1:0", "2:0", "3:0");
        int[] slots = {0, 4, 5, 9};
        for (int event = 0; event < 4; event++) {
            y.place(event, 6 * slots[event]);
        }
        Check.due("P28 both days", 6, () -> y.cost(0));
    }

    // "The late ones are the placed events that take the last slot of a day."

    private static void lateSlots() {
        TimetableBuilder x = Check.with("0:0", "0:0*2");
        for (int slot = 0; slot < 10; slot++) {
            int s = slot;
            x.place(0, 6 * s);
            Check.due("P28 one slot, " + s, s == 4 || s == 9 ? 1 : 0, () -> x.cost(1));
        }
        x.unplace(0);
        Check.due("P28 not placed, not late", 0, () -> x.cost(1));
        for (int slot = 0; slot < 9; slot++) {
            int s = slot;
            if (s != 4) {
                x.place(1, 6 * s);
                Check.due("P28 two slots, " + s, s == 3 || s == 8 ? 1 : 0, () -> x.cost(1));
            }
        }
    }

    private static void lateEvents() {
        TimetableBuilder x = Check.with("0:0", "1:1", "2:2*2", "3:3", "4:4", "5:5*2");
        x.setWeight(1, 7);
        int[] places = {24, 25, 20, 54, 59, 50};
        for (int event = 0; event < 6; event++) {
            int e = event;
            x.place(e, places[e]);
            Check.due("P28 late ones", e + 1, () -> x.cost(1));
        }
    }

    // "the capacity of the room minus the size, divided by 10, truncated for each event"

    private static void slackOfOne() {
        TimetableBuilder x = Check.with("0:0");
        x.place(0, 0);
        for (int capacity = 10; capacity <= 99; capacity++) {
            int c = capacity;
            x.setRoom(0, c, 0);
            Check.due("P28 10 in " + c, c / 10 - 1, () -> x.cost(2));
        }
        x.setGroup(0, 0);
        Check.due("P28 0 in 99", 9, () -> x.cost(2));
        x.setGroup(0, 9);
        Check.due("P28 9 in 99", 9, () -> x.cost(2));
        x.setGroup(0, 40);
        Check.due("P28 40 in 99", 5, () -> x.cost(2));
        x.setRoom(0, 40, 0);
        Check.due("P28 40 in 40", 0, () -> x.cost(2));
    }

    private static void slackOfEach() {
        TimetableBuilder x = Check.with("0:0", "1:1", "2:2*2", "3:3");
        x.setRoom(0, 19, 0);
        x.place(0, 0);
        x.place(1, 6);
        x.place(2, 12);
        Check.due("P28 three times 9 is nothing", 0, () -> x.cost(2));
        x.setRoom(0, 25, 0);
        Check.due("P28 three times 15 is three, also for a long one", 3, () -> x.cost(2));
        x.place(3, 25);
        Check.due("P28 and 20 in another room", 5, () -> x.cost(2));
        x.unplace(0);
        Check.due("P28 one that is not placed has none", 4, () -> x.cost(2));
    }

    private static void slackFollowsTheSettings() {
        TimetableBuilder x = Check.with("0:0,1");
        x.place(0, 0);
        Check.due("P28 20 in 30", 1, () -> x.cost(2));
        x.setGroup(1, 1);
        Check.due("P28 11 in 30", 1, () -> x.cost(2));
        x.setGroup(1, 0);
        Check.due("P28 10 in 30", 2, () -> x.cost(2));
        x.split(0, 1);
        Check.due("P28 0 in 30", 3, () -> x.cost(2));
    }

    // "and 100 times the number of events that are not placed"

    private static void notPlacedOnes() {
        TimetableBuilder x = new TimetableBuilder();
        for (int weight = 0; weight <= 2; weight++) {
            x.setWeight(weight, 0);
        }
        for (int event = 1; event <= 14; event++) {
            int e = event;
            Check.add(x, "0:0");
            Check.due("P28 not placed", e, () -> x.cost(3));
            Check.due("P28 each costs 100", 100 * e, () -> x.cost(4));
        }
        x.place(7, 0);
        Check.due("P28 one less", 13, () -> x.cost(3));
        Check.due("P28 the cost too", 1300, () -> x.cost(4));
        x.removeEvent(0);
        Check.due("P28 one removed", 1200, () -> x.cost(4));
    }

    // "The cost is the sum of the weight of gaps times the gaps, that of late ones times the late ones, that of slack
    // times the slack"

    private static void allWeights() {
        TimetableBuilder x = Check.with("0:0", "1:0", "2:1", "3:2");
        x.setRoom(5, 99, 0);
        x.place(0, 5);
        x.place(1, 24);
        x.place(2, 58);
        int gaps = 3;
        int late = 2;
        int slack = 8 + 2 + 2;
        for (int set = 0; set < 64; set++) {
            int[] weights = {set % 4 * 3, set / 4 % 4 * 3, set / 16 * 3};
            for (int what = 0; what <= 2; what++) {
                x.setWeight(what, weights[what]);
            }
            int due = weights[0] * gaps + weights[1] * late + weights[2] * slack + 100;
            Check.due("P28 weights " + set, due, () -> x.cost(4));
        }
        Check.due("P28 gaps are not weighted", gaps, () -> x.cost(0));
        Check.due("P28 nor are late ones", late, () -> x.cost(1));
        Check.due("P28 nor is slack", slack, () -> x.cost(2));
        Check.due("P28 nor are those not placed", 1, () -> x.cost(3));
    }

    // "IndexOutOfBoundsException if there is no such event or place", "IllegalStateException if the place has an
    // obstacle for it"

    private static void costAtRefuses() {
        for (int event : Scene.NO_EVENTS) {
            SCENE.index("P29 event " + event, x -> x.costAt(event, 0));
            SCENE.index("P29 event " + event + " without a place", x -> x.costAt(event, 60));
        }
        FULL.index("P29 event 14 of 14", x -> x.costAt(14, 59));
        for (int place : Check.outside(60)) {
            SCENE.index("P29 place " + place, x -> x.costAt(0, place));
        }
        int[] events = {1, 5, 4, 6, 8, 8, 3};
        int[] places = {24, 0, 0, 1, 6, 9, 12};
        for (int obstacle = 1; obstacle <= 7; obstacle++) {
            int e = events[obstacle - 1];
            int p = places[obstacle - 1];
            SCENE.asks("P17 obstacle " + obstacle, obstacle, x -> x.obstacle(e, p));
            SCENE.state("P29 obstacle " + obstacle, x -> x.costAt(e, p));
        }
    }

    // "Returns the cost that would result if an event were moved."

    private static void costAtOfPlacedOnes() {
        int cost = 576;
        SCENE.asks("P28 the cost", cost, x -> x.cost(4));
        SCENE.asks("P29 at its own place", cost, x -> x.costAt(3, 24));
        SCENE.asks("P29 a fixed one at its own place", cost, x -> x.costAt(0, 6));
        SCENE.asks("P29 a long one at its own place", cost, x -> x.costAt(1, 13));
        SCENE.asks("P29 no gap and not late", cost - 2 - 4, x -> x.costAt(3, 18));
        SCENE.asks("P29 at the first place, with a gap", cost - 4, x -> x.costAt(3, 0));
        SCENE.asks("P29 in the large room, a slack of 7", cost + 5 * 6, x -> x.costAt(3, 29));
        SCENE.asks("P29 a fixed one to a late slot", cost + 4, x -> x.costAt(0, 54));
    }

    // "The cost of an event that is not placed can be asked for with costAt; it does not count as unplaced there."

    private static void costAtOfNotPlacedOnes() {
        TimetableBuilder one = Check.with("0:0");
        Check.due("P29 the only one", 2, () -> one.costAt(0, 0));
        Check.due("P29 late", 3, () -> one.costAt(0, 59));
        Check.due("P28 it is still not placed", 100, () -> one.cost(4));
        int others = 576 - 100;
        SCENE.asks("P29 with a gap and a slack of 2", others + 2 + 5 * 2, x -> x.costAt(8, 0));
        SCENE.asks("P29 the large one in a room for 40", others, x -> x.costAt(4, 1));
        SCENE.asks("P29 late and in a room for 99", others + 4 + 5 * 5, x -> x.costAt(4, 59));
    }

    private static void costAtIsWhatPlaceMakes() {
        for (int event = 0; event < 9; event++) {
            for (int place = 0; place < 60; place++) {
                TimetableBuilder x = Scene.rich();
                if (x.obstacle(event, place) == 0) {
                    int then = x.costAt(event, place);
                    if (x.event(event, 6) == 1) {
                        x.fix(event, false);
                    }
                    x.place(event, place);
                    Check.due("P29 event " + event + " at " + place, x.cost(4), () -> then);
                }
            }
        }
    }
}
