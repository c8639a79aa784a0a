/**
 * The boundary cases of promises 14 to 16, 21 and 22.
 * A comment before a test is the sentence that it tests.
 */
final class PlaceBoundsTest {
    private static final Refusals SCENE = new Refusals(Scene::rich);
    private static final Refusals FULL = new Refusals(Scene::full);

    public static void main(String[] args) {
        placeEverywhere();
        placeAgain();
        placeOntoItself();
        placeRefusesEventsAndPlaces();
        placeRefusesFixedOnes();
        placeRefusesObstacles();
        unplaceAnswers();
        unplaceRefuses();
        fixAnswers();
        fixRefuses();
        fixedOnesLeaveByUnplace();
        atRefuses();
        atFollowsTheEvents();
        takenRefuses();
        takenOfEachKind();
        takenTogether();
        Check.end();
    }

    // "place: the place, 0 to 59", "Returns its previous place, or -1."

    private static void placeEverywhere() {
        TimetableBuilder x = Check.with("0:0");
        for (int place = 0; place < 60; place++) {
            int k = place;
            Check.due("P14 the previous place", k - 1, () -> x.place(0, k));
            Check.due("P14 the place", k, () -> x.event(0, 5));
            Check.due("P14 only there", 1 << k / 6, () -> x.taken(0, 0));
        }
        Check.due("P14 from the last to the first", 59, () -> x.place(0, 0));
        x.unplace(0);
        Check.due("P14 none after unplace", -1, () -> x.place(0, 59));
    }

    // "Places an event, which may be placed elsewhere."

    private static void placeAgain() {
        TimetableBuilder x = Check.with("0:0", "0:0");
        x.place(0, 10);
        int changes = x.count(4);
        Check.due("P14 at its own place", 10, () -> x.place(0, 10));
        Check.due("P14 a change also then", changes + 1, () -> x.count(4));
        Check.due("P14 elsewhere", 10, () -> x.place(0, 22));
        Check.due("P14 the old place is free for another one", -1, () -> x.place(1, 10));
        Check.same("P14 both", "22 10", Check.places(x));
    }

    private static void placeOntoItself() {
        TimetableBuilder x = Check.with("0:0*2");
        x.place(0, 6);
        Check.due("P14 its first slot is its second one", 6, () -> x.place(0, 12));
        Check.due("P14 its second slot is its first one", 12, () -> x.place(0, 6));
        Check.due("P14 another room", 6, () -> x.place(0, 7));
        Check.due("P14 two slots", 6, () -> x.taken(2, 1));
        Check.due("P14 the last two", 7, () -> x.place(0, 53));
        Check.due("P14 two slots there", 3 << 8, () -> x.taken(2, 5));
    }

    // "Throws IndexOutOfBoundsException if there is no such event or place", first of all

    private static void placeRefusesEventsAndPlaces() {
        for (int event : Scene.NO_EVENTS) {
            SCENE.index("P14 event " + event, x -> x.place(event, 0));
            SCENE.index("P14 event " + event + ", without a place", x -> x.place(event, 60));
        }
        FULL.index("P14 event 14 of 14", x -> x.place(14, 30));
        for (int place : Check.outside(60)) {
            SCENE.index("P14 place " + place, x -> x.place(8, place));
            SCENE.index("P14 place " + place + " comes before fixed", x -> x.place(0, place));
        }
    }

    // "UnsupportedOperationException if the event is fixed"

    private static void placeRefusesFixedOnes() {
        SCENE.unsupported("P14 a fixed one to a free place", x -> x.place(0, 0));
        SCENE.unsupported("P14 a fixed one to its own place", x -> x.place(0, 6));
        SCENE.unsupported("P14 fixed comes before the obstacle", x -> x.place(2, 16));
        SCENE.unsupported("P14 also before a taken place", x -> x.place(0, 24));
        TimetableBuilder x = Scene.rich();
        x.fix(0, false);
        Check.due("P14 not fixed any more", 6, () -> x.place(0, 0));
    }

    // "IllegalStateException if the place has an obstacle for it"

    private static void placeRefusesObstacles() {
        int[] events = {1, 5, 4, 6, 8, 8, 8, 3, 7};
        int[] places = {24, 0, 0, 1, 6, 17, 13, 6, 6};
        int[] obstacles = {1, 2, 3, 4, 5, 5, 5, 5, 5};
        for (int i = 0; i < events.length; i++) {
            int e = events[i];
            int p = places[i];
            SCENE.asks("P17 event " + e + " at " + p, obstacles[i], x -> x.obstacle(e, p));
            SCENE.state("P14 event " + e + " at " + p, x -> x.place(e, p));
        }
        SCENE.asks("P17 the teacher", 6, x -> x.obstacle(8, 9));
        SCENE.state("P14 the teacher", x -> x.place(8, 9));
        SCENE.asks("P17 the group", 7, x -> x.obstacle(3, 12));
        SCENE.state("P14 the group", x -> x.place(3, 12));
        SCENE.asks("P17 the second slot", 5, x -> x.obstacle(1, 18));
        SCENE.state("P14 the second slot", x -> x.place(1, 18));
        Check.due("P14 no obstacle", 24, () -> Scene.rich().place(3, 18));
    }

    // "Makes an event unplaced and not fixed.", "Returns its previous place."

    private static void unplaceAnswers() {
        for (int place : new int[] {0, 59}) {
            for (int fixed = 0; fixed <= 1; fixed++) {
                boolean was = fixed == 1;
                TimetableBuilder x = Check.with("0:0", "1:1");
                x.place(0, place);
                x.place(1, 30);
                x.fix(0, was);
                x.fix(1, true);
                Check.due("P15 the previous place", place, () -> x.unplace(0));
                Check.due("P15 not placed", -1, () -> x.event(0, 5));
                Check.due("P15 not fixed", 0, () -> x.event(0, 6));
                Check.due("P15 takes nothing", 0, () -> x.taken(0, 0));
                Check.due("P15 the other one is placed", 30, () -> x.event(1, 5));
                Check.due("P15 and fixed", 1, () -> x.event(1, 6));
                x.place(0, place);
                Check.due("P15 placed again, it is not fixed", 0, () -> x.event(0, 6));
            }
        }
    }

    // "IndexOutOfBoundsException if there is no such event", "IllegalStateException if it is not placed"

    private static void unplaceRefuses() {
        for (int event : Scene.NO_EVENTS) {
            SCENE.index("P15 event " + event, x -> x.unplace(event));
        }
        FULL.index("P15 event 14 of 14", x -> x.unplace(14));
        FULL.state("P15 the last of 14, not placed", x -> x.unplace(13));
        SCENE.state("P15 never placed", x -> x.unplace(4));
        SCENE.state("P15 unplaced already", x -> x.unplace(7));
    }

    // "Sets whether an event is fixed.", "Returns whether it was fixed."

    private static void fixAnswers() {
        for (int set = 0; set < 4; set++) {
            boolean was = (set & 1) != 0;
            boolean now = (set & 2) != 0;
            TimetableBuilder x = Check.with("0:0", "1:1");
            x.place(0, 0);
            x.place(1, 1);
            x.fix(0, was);
            int changes = x.count(4);
            Check.due("P16 it was", was, x.fix(0, now));
            Check.due("P16 it is", now ? 1 : 0, () -> x.event(0, 6));
            Check.due("P16 the other one is not", 0, () -> x.event(1, 6));
            Check.due("P16 fixed ones", now ? 1 : 0, () -> x.count(2));
            Check.due("P16 a change, whatever it was", changes + 1, () -> x.count(4));
            Check.same("P16 none moves", "0 1", Check.places(x));
        }
    }

    // "IllegalStateException if it is not placed"

    private static void fixRefuses() {
        for (int set = 0; set <= 1; set++) {
            boolean fixed = set == 1;
            for (int event : Scene.NO_EVENTS) {
                SCENE.index("P16 event " + event, x -> x.fix(event, fixed) ? 1 : 0);
            }
            FULL.index("P16 event 14 of 14", x -> x.fix(14, fixed) ? 1 : 0);
            FULL.state("P16 the last of 14, not placed", x -> x.fix(13, fixed) ? 1 : 0);
            SCENE.state("P16 not placed", x -> x.fix(4, fixed) ? 1 : 0);
            SCENE.state("P16 not placed any more", x -> x.fix(7, fixed) ? 1 : 0);
        }
    }

    // "a placed event can be fixed"

    private static void fixedOnesLeaveByUnplace() {
        TimetableBuilder x = Check.with("0:0");
        x.place(0, 0);
        x.fix(0, true);
        Check.due("P15 a fixed one is unplaced", 0, () -> x.unplace(0));
        Check.fails("P16 so that it cannot be fixed", Check.STATE, () -> x.fix(0, true) ? 1 : 0);
        Check.due("P33 none is fixed", 0, () -> x.count(2));
        x.place(0, 1);
        Check.due("P14 and can be placed elsewhere", 1, () -> x.place(0, 2));
    }

    // "IndexOutOfBoundsException if there is no such slot or room", "NoSuchElementException if there is none"

    private static void atRefuses() {
        for (int slot : Check.outside(10)) {
            SCENE.index("P21 slot " + slot, x -> x.at(slot, 0));
            SCENE.index("P21 slot " + slot + " without a room", x -> x.at(slot, 6));
        }
        for (int room : Check.outside(6)) {
            SCENE.index("P21 room " + room, x -> x.at(1, room));
        }
        SCENE.asks("P21 slot 1, room 0", 0, x -> x.at(1, 0));
        SCENE.fails("P21 slot 1, room 1", Check.NO_ELEMENT, x -> x.at(1, 1));
        SCENE.fails("P21 slot 0, room 0", Check.NO_ELEMENT, x -> x.at(0, 0));
        SCENE.fails("P21 slot 9, room 5", Check.NO_ELEMENT, x -> x.at(9, 5));
        SCENE.asks("P21 a first slot", 1, x -> x.at(2, 1));
        SCENE.asks("P21 a second slot", 1, x -> x.at(3, 1));
        SCENE.fails("P21 the slot behind it", Check.NO_ELEMENT, x -> x.at(4, 1));
    }

    private static void atFollowsTheEvents() {
        TimetableBuilder x = Check.with("0:0", "1:1*2");
        x.place(0, 0);
        x.place(1, 53);
        Check.due("P21 the least slot and room", 0, () -> x.at(0, 0));
        Check.due("P21 the greatest slot and room", 1, () -> x.at(9, 5));
        Check.due("P21 the slot before", 1, () -> x.at(8, 5));
        x.place(1, 47);
        Check.fails("P21 moved by a slot", Check.NO_ELEMENT, () -> x.at(9, 5));
        Check.due("P21 to there", 1, () -> x.at(7, 5));
        x.removeEvent(0);
        Check.fails("P21 removed", Check.NO_ELEMENT, () -> x.at(0, 0));
        Check.due("P21 its number now", 0, () -> x.at(8, 5));
    }

    // "IllegalArgumentException if what is not from 0 to 2", "IndexOutOfBoundsException if there is no such teacher,
    // group or room"

    private static void takenRefuses() {
        for (int what : Check.outside(3)) {
            SCENE.argument("P22 what " + what, x -> x.taken(what, 0));
            for (int index : Check.outside(6)) {
                SCENE.argument("P22 what comes before index " + index, x -> x.taken(what, index));
            }
        }
        for (int what = 0; what <= 2; what++) {
            int k = what;
            for (int index : Check.outside(6)) {
                SCENE.index("P22 index " + index + " of " + k, x -> x.taken(k, index));
            }
        }
    }

    // "what: 0 for those of a teacher, 1 for those of a group, 2 for those in a room", "bit s for slot s"

    private static void takenOfEachKind() {
        int[][] due = {{2 + 16, 4 + 8, 4, 0, 0, 0}, {2, 4 + 8, 4 + 16, 16, 0, 0}, {2 + 16, 4 + 8, 0, 0, 0, 4}};
        for (int k = 0; k < 18; k++) {
            int what = k / 6;
            int index = k % 6;
            SCENE.asks("P22 taken " + what + ", " + index, due[what][index], x -> x.taken(what, index));
        }
    }

    // "Returns the slots that placed events take."

    private static void takenTogether() {
        TimetableBuilder x = Check.with("5:5", "5:5*2", "5:5", "5:5", "5:5*2");
        x.place(0, 5);
        x.place(1, 23);
        x.place(3, 59);
        x.place(4, 41);
        int due = 1 + 8 + 16 + 64 + 128 + 512;
        for (int what = 0; what <= 2; what++) {
            int k = what;
            Check.due("P22 all together", due, () -> x.taken(k, 5));
            Check.due("P22 another index", 0, () -> x.taken(k, 0));
        }
    }
}
