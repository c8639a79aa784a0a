/**
 * The boundary cases of promise 27, and of "Steps" in the description.
 * A comment before a test is the sentence that it tests.
 */
final class ImproveBoundsTest {
    private static final Refusals SCENE = new Refusals(Scene::rich);

    public static void main(String[] args) {
        refuses();
        eachNumberOfSteps();
        untilNoneIsPossible();
        nothingToImprove();
        onlyIfItIsLess();
        onlyPlacedOnes();
        noFixedOnes();
        onlyWithoutObstacles();
        theLeastCost();
        theLowestEvent();
        theLowestPlace();
        stepAfterStep();
        improveIsOneChange();
        Check.end();
    }

    /** Six events in the last slot of the first day, which weighs as much as is said. */
    private static TimetableBuilder late(int weight) {
        TimetableBuilder x = Check.with("0:0", "1:1", "2:2", "3:3", "4:4", "5:5");
        for (int event = 0; event < 6; event++) {
            x.place(event, 24 + event);
        }
        x.setWeight(1, weight);
        return x;
    }

    private static void improves(String what, TimetableBuilder x, int steps, int made, String places) {
        Check.due(what, made, () -> x.improve(steps));
        Check.same(what + ", the places", places, Check.places(x));
    }

    // "steps: the greatest number of steps, 1 to 5", "IllegalArgumentException if the number is out of range"

    private static void refuses() {
        for (int steps : new int[] {-1, 0, 6, 7, Integer.MIN_VALUE, Integer.MAX_VALUE}) {
            SCENE.argument("P27 steps " + steps, x -> x.improve(steps));
        }
    }

    // "Returns the number of steps made."

    private static void eachNumberOfSteps() {
        String[] due = {"0 25 26 27 28 29", "0 1 26 27 28 29", "0 1 2 27 28 29", "0 1 2 3 28 29", "0 1 2 3 4 29"};
        for (int steps = 1; steps <= 5; steps++) {
            improves("P27 steps " + steps, late(1), steps, steps, due[steps - 1]);
        }
    }

    // "Makes steps of improving, until none is possible any more."

    private static void untilNoneIsPossible() {
        TimetableBuilder x = late(1);
        x.improve(4);
        improves("P27 two are left", x, 5, 2, "0 1 2 3 4 5");
        improves("P27 none is left", x, 5, 0, "0 1 2 3 4 5");
        improves("P27 none is left for one step", x, 1, 0, "0 1 2 3 4 5");
        TimetableBuilder y = late(1);
        y.improve(5);
        improves("P27 the last one of one step", y, 1, 1, "0 1 2 3 4 5");
    }

    private static void nothingToImprove() {
        TimetableBuilder x = new TimetableBuilder();
        Check.due("P27 no events", 0, () -> x.improve(1));
        Check.due("P27 a change", 1, () -> x.count(4));
        Check.due("P27 no events, five steps", 0, () -> x.improve(5));
        Check.due("P27 another change", 2, () -> x.count(4));
    }

    // "It is only made if the cost becomes less."

    private static void onlyIfItIsLess() {
        improves("P27 nothing has a weight", late(0), 5, 0, "24 25 26 27 28 29");
        TimetableBuilder x = Check.with("0:0");
        x.place(0, 45);
        improves("P27 an equal cost elsewhere", x, 5, 0, "45");
        x.setRoom(3, 20, 0);
        x.place(0, 57);
        x.setWeight(1, 0);
        improves("P27 a smaller room would be the only gain", x, 5, 0, "57");
        x.setRoom(2, 10, 0);
        improves("P27 now it is less by one", x, 5, 1, "2");
    }

    // "moves one placed event that is not fixed"

    private static void onlyPlacedOnes() {
        TimetableBuilder x = Check.with("0:0", "1:1");
        improves("P27 none is placed", x, 5, 0, "-1 -1");
        x.place(1, 24);
        improves("P27 the other one is not placed by it", x, 5, 1, "-1 0");
    }

    private static void noFixedOnes() {
        TimetableBuilder x = late(1);
        x.fix(0, true);
        x.fix(2, true);
        improves("P27 two are fixed", x, 5, 4, "24 0 26 1 2 3");
        Check.due("P27 they still are", 2, () -> x.count(2));
        x.fix(2, false);
        improves("P27 one is not fixed any more", x, 5, 1, "24 0 4 1 2 3");
    }

    // "to a place without an obstacle"

    private static void onlyWithoutObstacles() {
        TimetableBuilder x = Check.with("0:0,1/1*2", "1:2", "2:0", "0:3");
        x.setRoom(0, 20, 0);
        x.setRoom(1, 19, 1);
        x.setRoom(2, 20, 1);
        x.setRoom(3, 20, 1);
        x.setRoom(4, 9, 0);
        x.setRoom(5, 9, 0);
        x.setTeacher(0, 1023 & ~1);
        x.setWeight(1, 9);
        // Late at 8. The teacher is away in slot 0; in slots 1 to 3 stand three others; so it goes from 5 on.
        x.place(0, 51);
        x.place(1, 8);
        x.place(2, 12);
        x.place(3, 18);
        for (int event = 1; event <= 3; event++) {
            x.fix(event, true);
        }
        improves("P27 the first place without an obstacle", x, 1, 1, "32 8 12 18");
        x.place(0, 51);
        x.fix(0, true);
        improves("P27 it is fixed", x, 5, 0, "51 8 12 18");
    }

    // "such that the cost becomes least"

    private static void theLeastCost() {
        TimetableBuilder x = Check.with("0:0", "1:1");
        x.setRoom(5, 10, 0);
        x.place(0, 29);
        x.place(1, 24);
        improves("P27 the second one gains more", x, 1, 1, "29 5");
        improves("P27 then the first one", x, 1, 1, "11 5");
        TimetableBuilder y = Check.with("0:0");
        y.setRoom(2, 20, 0);
        y.setRoom(4, 10, 0);
        y.place(0, 54);
        improves("P27 not the first gain, the greatest", y, 5, 1, "4");
    }

    // "of several such moves, it takes the one with the lowest event"

    private static void theLowestEvent() {
        TimetableBuilder x = Check.with("0:0", "1:1", "2:2");
        x.setRoom(0, 10, 0);
        x.place(0, 5);
        x.place(1, 4);
        x.place(2, 3);
        x.fix(0, true);
        improves("P27 the lower of two equal ones", x, 1, 1, "5 0 3");
        TimetableBuilder y = Check.with("0:0", "1:0");
        y.place(0, 6);
        y.place(1, 18);
        improves("P27 either closes the gap, the higher one to a lower place", y, 1, 1, "12 18");
    }

    // "and of these, the lowest place"

    private static void theLowestPlace() {
        TimetableBuilder x = Check.with("0:0");
        x.place(0, 59);
        improves("P27 any place that is not late", x, 5, 1, "0");
        TimetableBuilder y = Check.with("0:0", "1:1");
        y.place(1, 0);
        y.place(0, 24);
        improves("P27 the lowest that is free", y, 5, 1, "1 0");
        TimetableBuilder z = Check.with("0:0");
        z.setRoom(5, 10, 0);
        z.setTeacher(0, 512 + 256);
        z.place(0, 54);
        improves("P27 the last place that is better", z, 5, 1, "53");
    }

    // "Makes steps of improving": each from the table that the one before it left

    private static void stepAfterStep() {
        TimetableBuilder x = Check.with("0:0", "1:0", "2:0");
        x.place(0, 0);
        x.place(1, 12);
        x.place(2, 24);
        // Two gaps and a late one: the third goes to slot 1, where it closes a gap and is not late.
        improves("P27 one step is the best", x, 5, 1, "0 12 6");
        TimetableBuilder y = Scene.inOneRoom("0:0", "1:1");
        y.setTeacher(0, 1 + 512);
        y.setTeacher(1, 16 + 512);
        y.setWeight(0, 0);
        y.place(0, 54);
        y.place(1, 24);
        improves("P27 only one of the two can be better", y, 5, 1, "0 24");
        TimetableBuilder z = Scene.inOneRoom("0:0", "1:1");
        z.setTeacher(0, 1 + 2);
        z.setTeacher(1, 1 + 512);
        z.setRoom(1, 10, 0);
        z.setGroup(1, 11);
        z.place(0, 0);
        z.place(1, 54);
        improves("P27 the first makes room for the second", z, 5, 2, "1 0");
    }

    private static void improveIsOneChange() {
        TimetableBuilder x = late(1);
        x.improve(5);
        Check.due("P34 five steps are one change", 5, x::undo);
        Check.same("P34 all taken back", "24 25 26 27 28 29", Check.places(x));
    }
}
