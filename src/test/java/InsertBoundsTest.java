/**
 * The boundary cases of promises 23 and 24, and of "Inserting" in the description. In most tests only room 0 has a
 * capacity, so that the places are 6 * slot. A comment before a test is the sentence that it tests.
 */
final class InsertBoundsTest {
    private static final Refusals SCENE = new Refusals(Scene::rich);
    private static final Refusals FULL = new Refusals(Scene::full);

    public static void main(String[] args) {
        insertRefuses();
        insertTheLowestPlace();
        insertTheLastPlace();
        insertOnlySuitablePlaces();
        zeroBeforeOne();
        oneBeforeTwo();
        twoIfOneFails();
        threeAreTooMany();
        eachReasonHinders();
        noFixedOneMoves();
        oneOfTwoIsFixed();
        theNextPlaceIsTried();
        allIsAsBefore();
        theLeastNewPlace();
        theLeastSequence();
        inOrderOfTheEvents();
        bothAreTakenAwayFirst();
        theInsertedEventIsThereFirst();
        nobodyElseMoves();
        insertIsOneChange();
        buildNothing();
        fewerSuitablePlacesFirst();
        takenPlacesAreSuitable();
        placesBeforeGroups();
        moreGroupsFirst();
        lowerNumbersLast();
        buildGoesOn();
        buildTriesEachOnce();
        buildMovesOthers();
        Check.end();
    }

    private static void inserts(String what, TimetableBuilder x, int event, int moves, String places) {
        Check.due(what, moves, () -> x.insert(event));
        Check.same(what + ", the places", places, Check.places(x));
    }

    /** One room; the teacher of each event comes in these slots alone; each event is at this slot, or at none. */
    private static TimetableBuilder oneRoom(int[] slots, int[] at, String... texts) {
        TimetableBuilder x = Scene.inOneRoom(texts);
        for (int event = 0; event < texts.length; event++) {
            x.setTeacher(x.event(event, 0), slots[event]);
            if (at[event] >= 0) {
                x.place(event, 6 * at[event]);
            }
        }
        return x;
    }

    // "IndexOutOfBoundsException if there is no such event", "IllegalStateException if it is placed already",
    // "UnsupportedOperationException if it cannot be inserted", in this order

    private static void insertRefuses() {
        for (int event : Scene.NO_EVENTS) {
            SCENE.index("P23 event " + event, x -> x.insert(event));
        }
        FULL.index("P23 event 14 of 14", x -> x.insert(14));
        SCENE.state("P23 placed", x -> x.insert(1));
        SCENE.state("P23 placed and fixed", x -> x.insert(0));
        SCENE.unsupported("P23 the teacher never comes", x -> x.insert(5));
        Refusals stuck = new Refusals(() -> oneRoom(new int[] {1, 1}, new int[] {0, -1}, "0:0", "1:1"));
        stuck.state("P23 placed comes before what cannot be", x -> x.insert(0));
        stuck.unsupported("P23 the only place is taken", x -> x.insert(1));
        Refusals small = new Refusals(() -> Scene.inRooms(new int[0], "0:0"));
        small.unsupported("P23 no room is large enough", x -> x.insert(0));
        Refusals lacking = new Refusals(() -> Check.with("0:0/1"));
        lacking.unsupported("P23 no room has the feature", x -> x.insert(0));
        Refusals apart = new Refusals(() -> oneRoom(new int[] {16 + 32 + 512}, new int[] {-1}, "0:0*2"));
        apart.unsupported("P23 the slots of two days are not one after the other", x -> x.insert(0));
    }

    // "for each suitable place in ascending order"

    private static void insertTheLowestPlace() {
        TimetableBuilder x = Check.with("0:0", "1:1", "0:2", "2:0*2", "3:3");
        inserts("P23 the first place", x, 0, 0, "0 -1 -1 -1 -1");
        inserts("P23 the next room", x, 1, 0, "0 1 -1 -1 -1");
        inserts("P23 the teacher's next slot", x, 2, 0, "0 1 6 -1 -1");
        inserts("P23 the group's next slots", x, 3, 0, "0 1 6 7 -1");
        inserts("P23 the third room", x, 4, 0, "0 1 6 7 2");
        x.unplace(0);
        inserts("P23 back again", x, 0, 0, "0 1 6 7 2");
    }

    private static void insertTheLastPlace() {
        TimetableBuilder x = Scene.inRooms(new int[] {5}, "0:0", "1:1*2");
        x.setTeacher(0, 512);
        x.setTeacher(1, 128 + 256);
        inserts("P23 the last place of all", x, 0, 0, "59 -1");
        inserts("P23 the only two slots", x, 1, 0, "59 47");
        TimetableBuilder y = Scene.inRooms(new int[] {5}, "0:0*2");
        y.setTeacher(0, 512 + 256 + 16);
        inserts("P23 the last place for two slots", y, 0, 0, "53");
    }

    private static void insertOnlySuitablePlaces() {
        TimetableBuilder x = Check.with("0:0,1/2*2");
        x.setRoom(0, 19, 2);
        x.setRoom(1, 20, 1);
        x.setRoom(2, 20, 2);
        x.setTeacher(0, 1023 & ~(1 + 4));
        inserts("P23 no obstacle from 1 to 4", x, 0, 0, "20");
        TimetableBuilder y = oneRoom(new int[] {1, 3}, new int[] {0, -1}, "0:0", "1:1");
        y.setRoom(0, 30, 0);
        inserts("P23 beside the one that is there", y, 1, 0, "0 6");
    }

    // "for m = 0, 1 and 2, until it succeeds", "exactly m of them"

    private static void zeroBeforeOne() {
        TimetableBuilder x = oneRoom(new int[] {1023, 1 + 512}, new int[] {0, -1}, "0:0", "1:1");
        inserts("P23 no move at the last place before one at the first", x, 1, 0, "0 54");
        TimetableBuilder y = oneRoom(new int[] {1023, 1 + 512}, new int[] {9, -1}, "0:0", "1:1");
        inserts("P23 none is moved to be kind", y, 1, 0, "54 0");
    }

    private static void oneBeforeTwo() {
        int[] all = {1023, 1023, 1023, 1 + 2 + 256 + 512};
        TimetableBuilder x = oneRoom(all, new int[] {0, 1, 8, -1}, "0:0", "1:1", "2:2", "3:3*2");
        inserts("P23 one move at a later place before two", x, 3, 1, "0 6 12 48");
        TimetableBuilder y = oneRoom(all, new int[] {0, 8, 9, -1}, "0:0", "1:1", "2:2", "3:3*2");
        inserts("P23 one move at the lowest place", y, 3, 1, "12 48 54 0");
    }

    private static void twoIfOneFails() {
        int[] slots = {1023, 1023, 256, 1 + 2 + 256 + 512};
        TimetableBuilder x = oneRoom(slots, new int[] {0, 1, 8, -1}, "0:0", "1:1", "2:2", "3:3*2");
        inserts("P23 the one cannot move, the two can", x, 3, 2, "12 18 48 0");
        x.undo();
        x.fix(2, true);
        x.setTeacher(2, 1023);
        inserts("P23 the one is fixed", x, 3, 2, "12 18 48 0");
    }

    private static void threeAreTooMany() {
        Refusals three = new Refusals(() -> threeAt(3));
        three.unsupported("P23 three hinder", x -> x.insert(3));
        inserts("P23 two hinder", threeAt(2), 3, 2, "6 7 -1 0");
        inserts("P23 one hinders", threeAt(1), 3, 1, "6 -1 -1 0");
        inserts("P23 none hinders", threeAt(0), 3, 0, "-1 -1 -1 0");
    }

    private static TimetableBuilder threeAt(int placed) {
        TimetableBuilder x = Check.with("0:0", "1:1", "2:2", "3:0,1,2");
        x.setTeacher(3, 1);
        for (int event = 0; event < placed; event++) {
            x.place(event, 3 + event);
        }
        return x;
    }

    // "the hindering events are the placed events that would be the reason for the obstacle 5, 6 or 7 at this place"

    private static void eachReasonHinders() {
        TimetableBuilder x = Check.with("1:1", "0:0/1");
        x.setRoom(0, 30, 1);
        x.setTeacher(0, 1);
        x.place(0, 0);
        inserts("P23 the room hinders", x, 1, 1, "1 0");
        TimetableBuilder y = Check.with("0:1", "0:0/1", "5:5");
        y.setRoom(0, 30, 1);
        y.setTeacher(0, 3);
        y.place(0, 1);
        y.place(2, 6);
        y.fix(2, true);
        inserts("P23 the teacher hinders", y, 1, 1, "7 0 6");
        TimetableBuilder z = Check.with("1:0", "0:0");
        z.setTeacher(0, 1);
        z.place(0, 1);
        inserts("P23 the group hinders", z, 1, 1, "6 0");
        TimetableBuilder none = Check.with("1:1", "0:0");
        none.setTeacher(0, 1);
        none.place(0, 0);
        inserts("P23 nothing hinders in another room", none, 1, 0, "0 1");
    }

    // "and none is fixed"

    private static void noFixedOneMoves() {
        Refusals fixed = new Refusals(() -> {
            TimetableBuilder x = oneRoom(new int[] {1023, 1}, new int[] {0, -1}, "0:0", "1:1");
            x.fix(0, true);
            return x;
        });
        fixed.unsupported("P23 the one is fixed", x -> x.insert(1));
        TimetableBuilder y = oneRoom(new int[] {1023, 1}, new int[] {0, -1}, "0:0", "1:1");
        inserts("P23 not fixed, it moves", y, 1, 1, "6 0");
        TimetableBuilder z = oneRoom(new int[] {1023, 1023, 3}, new int[] {0, 1, -1}, "0:0", "1:1", "2:2");
        z.fix(0, true);
        inserts("P23 the one at the next place moves", z, 2, 1, "0 12 6");
        Check.due("P16 the fixed one is fixed", 1, () -> z.event(0, 6));
        Check.due("P16 the others are not", 1, () -> z.count(2));
    }

    private static void oneOfTwoIsFixed() {
        for (int event = 0; event <= 1; event++) {
            int e = event;
            Refusals fixed = new Refusals(() -> {
                TimetableBuilder x = oneRoom(new int[] {1023, 1023, 3}, new int[] {0, 1, -1}, "0:0", "1:1", "2:2*2");
                x.fix(e, true);
                return x;
            });
            fixed.unsupported("P23 event " + e + " of two is fixed", x -> x.insert(2));
        }
        TimetableBuilder y = oneRoom(new int[] {1023, 1023, 3}, new int[] {0, 1, -1}, "0:0", "1:1", "2:2*2");
        inserts("P23 none of two is fixed", y, 2, 2, "12 18 0");
    }

    // "If this is possible, the event is inserted so; otherwise everything is as before, and the next place is tried."

    private static void theNextPlaceIsTried() {
        TimetableBuilder x = oneRoom(new int[] {1, 2 + 4, 3}, new int[] {0, 1, -1}, "0:0", "1:1", "2:2");
        inserts("P23 the first cannot move, the second can", x, 2, 1, "0 12 6");
        int[] slots = {1, 1023, 1023, 1023, 1 + 2 + 32 + 64};
        TimetableBuilder y = oneRoom(slots, new int[] {0, 1, 5, 6, -1}, "0:0", "1:1", "2:2", "3:3", "4:4*2");
        inserts("P23 two others are tried", y, 4, 2, "0 6 12 18 30");
        TimetableBuilder z = oneRoom(new int[] {1, 2, 4, 8 + 128, 15}, new int[] {0, 1, 2, 3, -1}, "0:0", "1:1", "2:2", "3:3",
            "4:4");
        inserts("P23 the fourth place", z, 4, 1, "0 6 12 42 18");
    }

    private static void allIsAsBefore() {
        Refusals stuck = new Refusals(() -> {
            int[] slots = {3, 3, 8 + 4, 3, 15};
            TimetableBuilder x = oneRoom(slots, new int[] {0, 1, 3, -1, -1}, "0:0", "1:1", "2:2", "3:3*2", "4:4*2");
            x.fix(2, true);
            return x;
        });
        stuck.unsupported("P23 the two could only change their places", x -> x.insert(3));
        stuck.unsupported("P23 nor can they for another one", x -> x.insert(4));
        Refusals full = new Refusals(() -> {
            TimetableBuilder x = Scene.inOneRoom("0:0", "0:0", "0:0", "0:0", "0:0", "0:0", "0:0", "0:0", "0:0", "0:0", "1:1");
            for (int slot = 0; slot < 10; slot++) {
                x.place(slot, 6 * slot);
            }
            return x;
        });
        full.unsupported("P23 every slot is taken", x -> x.insert(10));
    }

    // "such that the sequence of their new places is lexicographically least"

    private static void theLeastNewPlace() {
        TimetableBuilder x = oneRoom(new int[] {1 + 8 + 64, 1}, new int[] {0, -1}, "0:0", "1:1");
        inserts("P23 the least slot", x, 1, 1, "18 0");
        TimetableBuilder y = Check.with("0:0", "1:1/1");
        y.setRoom(3, 30, 1);
        y.setTeacher(1, 4);
        y.place(0, 15);
        inserts("P23 the least place of all, before its own", y, 1, 1, "0 15");
        TimetableBuilder z = oneRoom(new int[] {8 + 512, 8}, new int[] {3, -1}, "0:0", "1:1");
        inserts("P23 the last place", z, 1, 1, "54 18");
    }

    private static void theLeastSequence() {
        int[] at = {0, 1, -1};
        TimetableBuilder x = oneRoom(new int[] {1 + 4 + 8, 2 + 4, 3}, at, "0:0", "1:1", "2:2*2");
        inserts("P23 the first makes way for the second", x, 2, 2, "18 12 0");
        TimetableBuilder y = oneRoom(new int[] {1 + 4 + 8, 2 + 4 + 8, 3}, at, "0:0", "1:1", "2:2*2");
        inserts("P23 the first has the least", y, 2, 2, "12 18 0");
        TimetableBuilder z = oneRoom(new int[] {1 + 4, 2 + 4 + 8, 3}, at, "0:0", "1:1", "2:2*2");
        inserts("P23 the second takes what is left", z, 2, 2, "12 18 0");
        Refusals both = new Refusals(() -> oneRoom(new int[] {1 + 4, 2 + 4, 3}, at, "0:0", "1:1", "2:2*2"));
        both.unsupported("P23 one place for two", b -> b.insert(2));
    }

    // "in ascending order of the events", "those of them with lower numbers are placed already"

    private static void inOrderOfTheEvents() {
        TimetableBuilder x = oneRoom(new int[] {3, 1023, 1023}, new int[] {-1, 1, 0}, "0:0*2", "1:1", "2:2");
        inserts("P23 by the numbers, not by the places", x, 0, 2, "0 12 18");
        TimetableBuilder y = Check.with("0:0,1", "1:0", "2:1", "3:3");
        y.setTeacher(0, 1);
        y.setTeacher(1, 3);
        y.place(1, 3);
        y.place(2, 4);
        inserts("P23 the second avoids the first", y, 0, 2, "0 6 7 -1");
    }

    // "they are taken away, the event is placed there, and it is tried to place the hindering events"

    private static void bothAreTakenAwayFirst() {
        TimetableBuilder x = Check.with("1:1", "0:2", "0:0/1");
        x.setRoom(0, 30, 1);
        x.setTeacher(0, 3);
        x.place(0, 0);
        x.place(1, 1);
        Check.due("P20 one by its room, one by its teacher", 3, () -> x.hindering(2, 0));
        x.setTeacher(0, 1);
        Check.fails("P23 the teacher has no other slot", Check.UNSUPPORTED, () -> x.insert(2));
        x.setTeacher(0, 3);
        Check.add(x, "3:3");
        x.place(3, 6);
        x.fix(3, true);
        inserts("P23 the first takes the place of the second", x, 2, 2, "1 7 0 6");
        TimetableBuilder y = Scene.inRooms(new int[] {0, 1}, "0:2", "1:1", "0:0/1", "3:3");
        y.setRoom(0, 30, 1);
        y.setTeacher(0, 3);
        y.setTeacher(1, 1);
        y.place(0, 1);
        y.place(1, 0);
        y.place(3, 6);
        y.fix(3, true);
        inserts("P23 the second has only the place of the first", y, 2, 2, "7 1 0 6");
    }

    // "While hindering events are placed anew, the inserted event and those of them with lower numbers are placed
    // already."

    private static void theInsertedEventIsThereFirst() {
        TimetableBuilder x = Check.with("0:0", "1:0*2");
        x.setTeacher(1, 3);
        x.place(0, 0);
        inserts("P23 its group is in slots 0 and 1", x, 1, 1, "12 0");
        TimetableBuilder y = Check.with("0:1", "0:0*2");
        y.place(0, 3);
        y.setTeacher(0, 1 + 2 + 16);
        inserts("P23 its teacher is in slots 0 and 1", y, 1, 1, "24 0");
        Refusals none = new Refusals(() -> {
            TimetableBuilder z = Check.with("0:1", "0:0*2");
            z.place(0, 3);
            z.setTeacher(0, 3);
            return z;
        });
        none.unsupported("P23 no slot is left beside it", z -> z.insert(1));
    }

    // "at places without obstacles"

    private static void nobodyElseMoves() {
        TimetableBuilder x = oneRoom(new int[] {3, 1023, 1}, new int[] {0, 1, -1}, "0:0", "1:1", "2:2");
        Check.fails("P23 the hindering one would hinder another", Check.UNSUPPORTED, () -> x.insert(2));
        x.setTeacher(0, 7);
        inserts("P23 so it goes farther", x, 2, 1, "12 6 0");
        TimetableBuilder y = Check.with("0:0,1/1", "1:0,2");
        y.setRoom(0, 19, 15);
        y.setRoom(1, 20, 2);
        y.setRoom(2, 20, 14);
        y.setRoom(3, 20, 1);
        y.setTeacher(0, 2 + 4);
        y.setTeacher(1, 2);
        y.place(0, 9);
        inserts("P23 rooms too small or without the feature are none", y, 1, 1, "15 7");
        TimetableBuilder z = oneRoom(new int[] {1 + 2 + 16 + 32 + 64, 1}, new int[] {0, -1}, "0:0*2", "1:1");
        inserts("P23 two slots of one day", z, 1, 1, "30 0");
    }

    private static void insertIsOneChange() {
        TimetableBuilder x = oneRoom(new int[] {1023, 1023, 3}, new int[] {0, 1, -1}, "0:0", "1:1", "2:2*2");
        x.insert(2);
        Check.due("P23 not fixed", 0, () -> x.count(2));
        Check.due("P34 one change", 5, x::undo);
        Check.same("P34 all three as before", "0 6 -1", Check.places(x));
    }

    // "Returns the number of events that are not placed afterwards."

    private static void buildNothing() {
        TimetableBuilder x = new TimetableBuilder();
        Check.due("P24 no events", 0, x::build);
        Check.due("P24 a change", 1, () -> x.count(4));
        Check.add(x, "0:0");
        x.place(0, 30);
        Check.due("P24 all are placed", 0, x::build);
        Check.same("P24 and stay", "30", Check.places(x));
        x.unplace(0);
        x.setTeacher(0, 0);
        Check.due("P24 one that cannot be", 1, x::build);
        TimetableBuilder y = new TimetableBuilder();
        for (int event = 0; event < 14; event++) {
            Check.add(y, "0:0");
        }
        Check.due("P24 ten slots for fourteen", 4, y::build);
        Check.same("P24 the lower ones have them", "0 6 12 18 24 30 36 42 48 54 -1 -1 -1 -1", Check.places(y));
        Check.due("P28 four without a place", 4, () -> y.cost(3));
        TimetableBuilder z = new TimetableBuilder();
        StringBuilder places = new StringBuilder();
        for (int event = 0; event < 14; event++) {
            Check.add(z, event % 6 + ":" + event % 6);
            places.append(event == 0 ? "" : " ").append(event);
        }
        Check.due("P24 all fourteen", 0, z::build);
        Check.same("P24 each has a place", places.toString(), Check.places(z));
    }

    // "those with fewer suitable places first"

    private static void fewerSuitablePlacesFirst() {
        TimetableBuilder x = oneRoom(new int[] {3, 1, 2}, new int[] {-1, -1, -1}, "0:0", "1:1", "2:2");
        Check.due("P24 the one with two places is last", 1, x::build);
        Check.same("P24 so it has none", "-1 0 6", Check.places(x));
        TimetableBuilder y = oneRoom(new int[] {2, 3, 1}, new int[] {-1, -1, -1}, "0:0", "1:1", "2:2");
        Check.due("P24 wherever it stands", 1, y::build);
        Check.same("P24 the others have places", "6 -1 0", Check.places(y));
    }

    // "A place is suitable for an event if its obstacle is not from 1 to 4."

    private static void takenPlacesAreSuitable() {
        TimetableBuilder x = oneRoom(new int[] {1 + 4, 1, 1023}, new int[] {-1, -1, 2}, "0:0", "1:1", "2:2");
        x.fix(2, true);
        Check.due("P19 both have one free place", 1, () -> x.places(0, 0));
        Check.due("P24 but one has two suitable ones", 1, x::build);
        Check.same("P24 so that it is last", "-1 0 12", Check.places(x));
    }

    private static void placesBeforeGroups() {
        for (String groups : new String[] {"0,1", "0,1,2", "0,1,2,3,4", "0,1,2,3,4,5"}) {
            TimetableBuilder x = Scene.inOneRoom("0:" + groups, "1:0", "2:0");
            for (int group = 0; group < 6; group++) {
                x.setGroup(group, 5);
            }
            x.setTeacher(0, 3);
            x.setTeacher(1, 1);
            x.setTeacher(2, 2);
            Check.due("P24 one place more, whatever the groups " + groups, 1, x::build);
            Check.same("P24 is last with groups " + groups, "-1 0 6", Check.places(x));
        }
    }

    // "of several those with more groups"

    private static void moreGroupsFirst() {
        TimetableBuilder x = oneRoom(new int[] {1, 1}, new int[] {-1, -1}, "0:5", "1:0,1");
        Check.due("P24 one place for two", 1, x::build);
        Check.same("P24 two groups before one", "-1 0", Check.places(x));
        TimetableBuilder y = oneRoom(new int[] {1, 1, 1}, new int[] {-1, -1, -1}, "0:4,5", "1:0,1,2", "2:3,4,5");
        Check.due("P24 one place for three", 2, y::build);
        Check.same("P24 three groups, the lower number", "-1 0 -1", Check.places(y));
    }

    // "of these those with lower numbers"

    private static void lowerNumbersLast() {
        TimetableBuilder x = oneRoom(new int[] {1, 1, 1}, new int[] {-1, -1, -1}, "0:5", "1:4", "2:0");
        Check.due("P24 one place for three", 2, x::build);
        Check.same("P24 the lowest number", "0 -1 -1", Check.places(x));
        TimetableBuilder y = Check.with("0:0", "1:1", "2:2");
        Check.due("P24 places for all", 0, y::build);
        Check.same("P24 one after the other", "0 1 2", Check.places(y));
    }

    // "Tries to insert all events that are not placed, one after the other"

    private static void buildGoesOn() {
        TimetableBuilder x = oneRoom(new int[] {0, 1, 1, 512}, new int[] {-1, 0, -1, -1}, "0:0", "1:1", "2:2", "3:3");
        x.fix(1, true);
        Check.due("P24 two cannot be inserted", 2, x::build);
        Check.same("P24 the one behind them is", "-1 0 -1 54", Check.places(x));
        Check.due("P24 the fixed one is fixed", 1, () -> x.event(1, 6));
        Check.due("P24 the new one is not", 1, () -> x.count(2));
    }

    private static void buildTriesEachOnce() {
        TimetableBuilder x = Scene.inRooms(new int[] {0, 1}, "1:1*2", "1:2", "0:2", "0:5*2");
        x.setTeacher(0, 1 + 4 + 8);
        x.setTeacher(1, 1 + 2 + 8);
        x.place(1, 7);
        x.place(2, 18);
        // Event 1 can make way for event 0 only when event 2 has made way for event 3.
        Check.due("P24 the first one fails, the last one does not", 1, x::build);
        Check.same("P24 the first one is not tried again", "-1 7 0 12", Check.places(x));
        Check.due("P24 but by the next build", 0, x::build);
        Check.same("P24 now it has a place", "1 19 0 12", Check.places(x));
    }

    private static void buildMovesOthers() {
        TimetableBuilder x = oneRoom(new int[] {1023, 3, 3}, new int[] {0, 1, -1}, "0:0", "1:1", "2:2*2");
        x.setTeacher(1, 1023);
        Check.due("P24 two make way", 0, x::build);
        Check.same("P24 as in insert", "12 18 0", Check.places(x));
        Check.due("P34 one change", 5, x::undo);
        Check.same("P34 taken back whole", "0 6 -1", Check.places(x));
    }
}
