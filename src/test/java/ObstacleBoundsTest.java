/**
 * The boundary cases of promises 17 to 20, and of "Obstacles" in the description.
 * A comment before a test is the sentence that it tests.
 */
final class ObstacleBoundsTest {
    private static final Refusals SCENE = new Refusals(Scene::rich);
    private static final Refusals FULL = new Refusals(Scene::full);

    public static void main(String[] args) {
        beyondTheDay();
        teacherAway();
        roomTooSmall();
        roomLacksFeatures();
        roomTaken();
        teacherTaken();
        groupTaken();
        commonGroups();
        notPlacedNoObstacle();
        notAnObstacleForItself();
        lowestThatApplies();
        obstacleRefuses();
        placesRefuses();
        placesOfAnEvent();
        freeRefuses();
        freeLimits();
        freeAscends();
        hinderingRefuses();
        hinderingBeyondTheDay();
        hinderingEachOnce();
        hinderingTheLastEvent();
        Check.end();
    }

    // "1 the event would take a slot beyond the last slot of the day"; "the slots 0 to 4 are one day, 5 to 9 another
    // one; 4 and 9 are the last slots of their days"

    private static void beyondTheDay() {
        TimetableBuilder x = Check.with("0:0", "0:0*2");
        for (int place = 0; place < 60; place++) {
            int k = place;
            boolean last = k / 6 == 4 || k / 6 == 9;
            Check.due("P17 one slot at " + k, 0, () -> x.obstacle(0, k));
            Check.due("P17 two slots at " + k, last ? 1 : 0, () -> x.obstacle(1, k));
        }
    }

    // "2 its teacher is not available in a slot that it would take"

    private static void teacherAway() {
        for (int away = 0; away < 10; away++) {
            int a = away;
            TimetableBuilder x = Check.with("0:0", "0:0*2", "1:0*2");
            x.setTeacher(0, 1023 & ~(1 << a));
            for (int slot = 0; slot < 10; slot++) {
                int s = slot;
                boolean last = s == 4 || s == 9;
                Check.due("P17 one slot, away in " + a, s == a ? 2 : 0, () -> x.obstacle(0, 6 * s + 5));
                Check.due("P17 two slots, away in " + a, last ? 1 : s == a || s + 1 == a ? 2 : 0, () -> x.obstacle(1, 6 * s));
                Check.due("P17 another teacher", last ? 1 : 0, () -> x.obstacle(2, 6 * s));
            }
        }
    }

    // "3 the capacity of the room is less than its size"

    private static void roomTooSmall() {
        TimetableBuilder x = Check.with("0:0,1");
        x.setGroup(1, 11);
        int[] capacities = {0, 20, 21, 22, 99, 30};
        for (int room = 0; room < 6; room++) {
            int r = room;
            x.setRoom(r, capacities[r], 0);
            Check.due("P17 21 into " + capacities[r], capacities[r] < 21 ? 3 : 0, () -> x.obstacle(0, 54 + r));
        }
        x.setGroup(0, 0);
        x.setGroup(1, 0);
        Check.due("P17 0 into 0", 0, () -> x.obstacle(0, 0));
        x.setGroup(1, 1);
        Check.due("P17 1 into 0", 3, () -> x.obstacle(0, 0));
    }

    // "4 the room lacks a feature that it needs"

    private static void roomLacksFeatures() {
        for (int needs = 0; needs <= 15; needs++) {
            int n = needs;
            TimetableBuilder x = Check.with("0:0/" + n);
            for (int features = 0; features <= 15; features++) {
                int f = features;
                x.setRoom(3, 30, f);
                Check.due("P17 needs " + n + ", has " + f, (n & f) == n ? 0 : 4, () -> x.obstacle(0, 27));
            }
        }
    }

    /** Which slots stand in the way of a short and of a long event, if one at slot 2 or at 2 and 3 is an obstacle. */
    private static void around(String what, String other, int obstacle, int room) {
        for (int length = 1; length <= 2; length++) {
            TimetableBuilder x = Check.with("0:0", "0:0*2", other + "*" + length);
            x.place(2, 12);
            int taken = length == 1 ? 4 : 12;
            int hinders = obstacle == 0 ? 0 : 4;
            for (int slot = 0; slot < 10; slot++) {
                int s = slot;
                boolean last = s == 4 || s == 9;
                boolean one = (taken & 1 << s) != 0;
                boolean two = (taken & 3 << s) != 0;
                Check.due(what + ", one slot at " + s, one ? obstacle : 0, () -> x.obstacle(0, 6 * s + room));
                Check.due(what + ", two slots at " + s, last ? 1 : two ? obstacle : 0, () -> x.obstacle(1, 6 * s + room));
                Check.due(what + ", hindering one slot", one ? hinders : 0, () -> x.hindering(0, 6 * s + room));
                Check.due(what + ", hindering two slots", two ? hinders : 0, () -> x.hindering(1, 6 * s + room));
            }
        }
    }

    // "5 another placed event takes one of these slots in this room"

    private static void roomTaken() {
        around("P17 the room", "1:1", 5, 0);
        around("P17 another room", "1:1", 0, 1);
    }

    // "6 another placed event with the same teacher takes one of these slots"

    private static void teacherTaken() {
        around("P17 the teacher", "0:1", 6, 1);
        around("P17 the teacher", "0:1", 6, 5);
    }

    // "7 another placed event with a group in common takes one of these slots"

    private static void groupTaken() {
        around("P17 the group", "1:0", 7, 1);
        around("P17 one group of two", "1:0,5", 7, 5);
    }

    private static void commonGroups() {
        for (int one = 1; one < 64; one++) {
            TimetableBuilder x = new TimetableBuilder();
            for (int group = 0; group < 6; group++) {
                x.setGroup(group, 0);
            }
            Check.add(x, "0:" + list(one));
            for (int group = 0; group < 6; group++) {
                Check.add(x, "1:" + group);
            }
            x.place(0, 1);
            for (int group = 0; group < 6; group++) {
                int g = group;
                boolean common = (one >> g & 1) != 0;
                Check.due("P17 group " + g + " and groups " + one, common ? 7 : 0, () -> x.obstacle(1 + g, 0));
                Check.due("P20 group " + g + " and groups " + one, common ? 1 : 0, () -> x.hindering(1 + g, 0));
            }
        }
    }

    private static String list(int set) {
        StringBuilder text = new StringBuilder();
        for (int element = 0; element < 6; element++) {
            if ((set >> element & 1) != 0) {
                text.append(text.length() == 0 ? "" : ",").append(element);
            }
        }
        return text.toString();
    }

    // "another placed event"

    private static void notPlacedNoObstacle() {
        TimetableBuilder x = Check.with("0:0", "0:0", "0:0*2");
        for (int event = 0; event < 3; event++) {
            int e = event;
            Check.due("P17 nothing is placed", 0, () -> x.obstacle(e, 0));
            Check.due("P20 nothing is placed", 0, () -> x.hindering(e, 0));
        }
        x.place(0, 0);
        Check.due("P17 placed", 5, () -> x.obstacle(1, 0));
        Check.due("P20 placed", 1, () -> x.hindering(1, 0));
        x.unplace(0);
        Check.due("P17 no longer placed", 0, () -> x.obstacle(1, 0));
        Check.due("P20 no longer placed", 0, () -> x.hindering(1, 0));
        x.place(0, 0);
        x.setTeacher(0, 1022);
        Check.due("P17 unplaced by setTeacher", 2, () -> x.obstacle(1, 0));
        Check.due("P20 unplaced by setTeacher", 0, () -> x.hindering(1, 0));
    }

    private static void notAnObstacleForItself() {
        TimetableBuilder x = Check.with("0:0", "1:1*2");
        x.place(0, 0);
        x.place(1, 13);
        x.fix(0, true);
        for (int room = 0; room < 6; room++) {
            int r = room;
            Check.due("P17 its own slot", 0, () -> x.obstacle(0, r));
            Check.due("P17 its own slots", 0, () -> x.obstacle(1, 12 + r));
            Check.due("P17 one of its slots", 0, () -> x.obstacle(1, 18 + r));
            Check.due("P17 the other one", 0, () -> x.obstacle(1, 6 + r));
            Check.due("P20 itself", 0, () -> x.hindering(0, r));
            Check.due("P20 itself, long", 0, () -> x.hindering(1, 12 + r));
        }
    }

    // "The obstacle of a place for an event is the lowest of these numbers that applies, or 0 if none does",
    // "Returns the events that would be the reason for the obstacle 5, 6 or 7 ..., whatever its obstacle is"

    private static void lowestThatApplies() {
        for (int set = 0; set < 128; set++) {
            int reasons = set;
            boolean late = (reasons & 1) != 0;
            TimetableBuilder x = new TimetableBuilder();
            x.setGroup(0, 40);
            x.setGroup(1, 0);
            x.setRoom(0, (reasons & 4) != 0 ? 39 : 40, (reasons & 8) != 0 ? 14 : 15);
            x.setRoom(2, 40, 0);
            for (String text : new String[] {"0:0/1*2", "1:1", "0:2", "2:0"}) {
                Check.add(x, text);
            }
            int hinder = 0;
            for (int other = 1; other <= 3; other++) {
                if ((reasons & 8 << other) != 0) {
                    x.place(other, 24 + other - 1);
                    hinder |= 1 << other;
                }
            }
            if ((reasons & 2) != 0) {
                // Slot 3 counts only for the place that is not late; without it, the teacher has to be there for event 2.
                x.setTeacher(0, 1023 & ~8);
            }
            int due = reasons == 0 ? 0 : 1 + Integer.numberOfTrailingZeros(reasons);
            int place = late ? 24 : 18;
            int hindering = hinder;
            Check.due("P17 the lowest of " + reasons, due, () -> x.obstacle(0, place));
            Check.due("P20 whatever the obstacle, " + reasons, hindering, () -> x.hindering(0, place));
        }
    }

    // "Throws IndexOutOfBoundsException if there is no such event or place", "place: the place, 0 to 59"

    private static void obstacleRefuses() {
        for (int event : Scene.NO_EVENTS) {
            SCENE.index("P17 event " + event, x -> x.obstacle(event, 0));
        }
        FULL.index("P17 event 14 of 14", x -> x.obstacle(14, 0));
        for (int place : Check.outside(60)) {
            SCENE.index("P17 place " + place, x -> x.obstacle(0, place));
        }
        SCENE.asks("P17 the first place", 0, x -> x.obstacle(8, 0));
        SCENE.asks("P17 the last place", 0, x -> x.obstacle(0, 59));
    }

    // "Throws IllegalArgumentException if the obstacle is out of range", "obstacle, 0 to 7"

    private static void placesRefuses() {
        for (int event : Scene.NO_EVENTS) {
            SCENE.index("P18 event " + event, x -> x.places(event, 0));
            SCENE.index("P18 the event comes before the obstacle", x -> x.places(event, 8));
        }
        FULL.index("P18 event 14 of 14", x -> x.places(14, 0));
        for (int obstacle : Check.outside(8)) {
            SCENE.argument("P18 obstacle " + obstacle, x -> x.places(0, obstacle));
        }
    }

    // "Returns the number of places that have an obstacle for an event."

    private static void placesOfAnEvent() {
        TimetableBuilder x = Check.with("0:0/1*2", "1:1", "0:2", "2:0");
        x.setGroup(0, 40);
        x.setGroup(1, 0);
        x.setRoom(0, 40, 1);
        x.setRoom(1, 40, 1);
        x.setRoom(2, 40, 1);
        x.setRoom(3, 40, 2);
        x.place(1, 0);
        x.place(2, 13);
        x.place(3, 32);
        x.setTeacher(0, 1023 & ~128);
        // Slots 4 and 9 are late, 6 and 7 without the teacher; two rooms are too small, one lacks the feature. In the
        // slots 0, 1, 2, 3, 5, 8 three rooms are left. Event 1 stands in its room once, event 2 in its room and in two
        // other ones twice, event 3 once.
        int[] due = {18 - 10, 12, 12, 12, 6, 1 + 2 + 1, 4, 2};
        for (int obstacle = 0; obstacle <= 7; obstacle++) {
            int k = obstacle;
            Check.due("P18 obstacle " + k, due[k], () -> x.places(0, k));
        }
        TimetableBuilder y = Check.with("0:0");
        Check.due("P18 all are free", 60, () -> y.places(0, 0));
        y.setTeacher(0, 0);
        Check.due("P18 none is free", 0, () -> y.places(0, 0));
        Check.due("P18 the teacher never comes", 60, () -> y.places(0, 2));
    }

    // "Throws java.util.NoSuchElementException if there is no such index", "index, ... from 0"

    private static void freeRefuses() {
        for (int event : Scene.NO_EVENTS) {
            SCENE.index("P19 event " + event, x -> x.free(event, 0));
            SCENE.index("P19 the event comes before the index", x -> x.free(event, -1));
            SCENE.index("P19 also before a large one", x -> x.free(event, 60));
        }
        FULL.index("P19 event 14 of 14", x -> x.free(14, 0));
        for (int index : Check.outside(60)) {
            SCENE.fails("P19 index " + index, Check.NO_ELEMENT, x -> x.free(0, index));
        }
        SCENE.fails("P19 nothing is free", Check.NO_ELEMENT, x -> x.free(5, 0));
    }

    private static void freeLimits() {
        TimetableBuilder x = Check.with("0:0", "1:1");
        for (int index = 0; index < 60; index++) {
            int k = index;
            Check.due("P19 all are free", k, () -> x.free(0, k));
        }
        Check.fails("P19 no more than 60", Check.NO_ELEMENT, () -> x.free(0, 60));
        x.place(1, 7);
        Check.due("P19 up to the taken one", 6, () -> x.free(0, 6));
        Check.due("P19 behind the taken one", 8, () -> x.free(0, 7));
        Check.due("P19 the last one", 59, () -> x.free(0, 58));
        Check.fails("P19 one less", Check.NO_ELEMENT, () -> x.free(0, 59));
        Check.due("P19 free for itself", 7, () -> x.free(1, 7));
        x.setTeacher(0, 1 << 9);
        x.setRoom(5, 9, 0);
        Check.due("P19 the first of five", 54, () -> x.free(0, 0));
        Check.due("P19 the last of five", 58, () -> x.free(0, 4));
        Check.fails("P19 no sixth", Check.NO_ELEMENT, () -> x.free(0, 5));
    }

    // "the index, in ascending order of the places"

    private static void freeAscends() {
        TimetableBuilder x = Check.with("0:0*2", "0:1", "1:0", "2:2*2");
        x.place(1, 8);
        x.place(2, 39);
        x.place(3, 48);
        int index = 0;
        for (int place = 0; place < 60; place++) {
            if (x.obstacle(0, place) == 0) {
                int k = index;
                Check.due("P19 index " + k, place, () -> x.free(0, k));
                index++;
            }
        }
        int end = index;
        Check.due("P19 as many as without obstacle", end, () -> x.places(0, 0));
        Check.due("P19 slots 2 and 3 whole, 7 and 8 but for one room", 22, () -> end);
        Check.fails("P19 none behind them", Check.NO_ELEMENT, () -> x.free(0, end));
    }

    // "Throws IndexOutOfBoundsException if there is no such event or place"

    private static void hinderingRefuses() {
        for (int event : Scene.NO_EVENTS) {
            SCENE.index("P20 event " + event, x -> x.hindering(event, 0));
        }
        FULL.index("P20 event 14 of 14", x -> x.hindering(14, 0));
        for (int place : Check.outside(60)) {
            SCENE.index("P20 place " + place, x -> x.hindering(0, place));
        }
        SCENE.asks("P20 nothing at the first place", 0, x -> x.hindering(0, 0));
        SCENE.asks("P20 nothing at the last place", 0, x -> x.hindering(0, 59));
    }

    // "slots beyond the last slot of the day are left out"

    private static void hinderingBeyondTheDay() {
        TimetableBuilder x = Check.with("0:0*2", "0:0", "0:0", "0:0");
        x.place(1, 30);
        x.place(2, 0);
        for (int room = 0; room < 6; room++) {
            int r = room;
            Check.due("P20 slot 4, not the next day", 0, () -> x.hindering(0, 24 + r));
            Check.due("P20 slot 9, no other day", 0, () -> x.hindering(0, 54 + r));
            Check.due("P20 slot 5", 2, () -> x.hindering(0, 30 + r));
            Check.due("P20 slot 0", 4, () -> x.hindering(0, r));
        }
        x.place(3, 24);
        Check.due("P20 slot 4 itself", 8, () -> x.hindering(0, 24));
        Check.due("P20 slot 3 and the next one", 8, () -> x.hindering(0, 18));
        Check.due("P20 although it is beyond the day", 1, () -> x.obstacle(0, 24));
    }

    private static void hinderingEachOnce() {
        TimetableBuilder x = Check.with("0:0,1*2", "0:0,1*2", "0:2", "1:1", "2:0", "3:3");
        x.place(1, 0);
        Check.due("P20 all reasons, both slots, one event", 2, () -> x.hindering(0, 0));
        x.unplace(1);
        x.place(2, 1);
        x.place(3, 2);
        x.place(4, 8);
        x.place(5, 6);
        Check.due("P20 by teacher, groups and room", 4 + 8 + 16 + 32, () -> x.hindering(0, 0));
        Check.due("P20 but the room in another room", 4 + 8 + 16, () -> x.hindering(0, 3));
        Check.due("P20 in one slot less", 16 + 32, () -> x.hindering(0, 6));
        Check.due("P20 for a placed event too", 8, () -> x.hindering(4, 2));
    }

    // "Returns the set, bit e for event e."

    private static void hinderingTheLastEvent() {
        TimetableBuilder x = new TimetableBuilder();
        for (int event = 0; event < 14; event++) {
            Check.add(x, "0:0");
        }
        for (int event = 0; event < 14; event++) {
            int e = event;
            x.place(e, 59);
            Check.due("P20 event " + e, 1 << e, () -> x.hindering(e == 0 ? 1 : 0, 54));
            x.unplace(e);
        }
        TimetableBuilder y = new TimetableBuilder();
        for (int event = 0; event < 14; event++) {
            Check.add(y, event < 6 ? event + ":" + event : event == 13 ? "0:0,1,2,3,4,5" : "0:0");
        }
        y.setRoom(0, 99, 0);
        for (int event = 0; event < 6; event++) {
            y.place(event, 54 + event);
        }
        Check.due("P20 six at once", 63, () -> y.hindering(13, 54));
    }
}
