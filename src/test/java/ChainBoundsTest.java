/**
 * The boundary cases of promises 25 and 26, and of "Chains" in the description.
 * A comment before a test is the sentence that it tests.
 */
final class ChainBoundsTest {
    private static final Refusals SCENE = new Refusals(Scene::rich);
    private static final Refusals FULL = new Refusals(Scene::full);

    public static void main(String[] args) {
        refusesEventsAndSlots();
        refusesStates();
        alone();
        everySlot();
        teacherOrGroup();
        onlyTheTwoSlots();
        longOnesInChains();
        overManyEvents();
        theLastEvent();
        exchangeEmptySlots();
        exchangeBothWays();
        refusesLongOnes();
        refusesFixedOnes();
        teachersThere();
        roomsOutsideOfTheChain();
        secondSlotsTakeRooms();
        roomsOfTheChain();
        capacitiesAndFeatures();
        differentRooms();
        theLeastRooms();
        othersStay();
        exchangeIsOneChange();
        Check.end();
    }

    private static void both(Refusals there, String what, Class<? extends RuntimeException> due, int event, int slot) {
        there.fails("P25 " + what, due, x -> x.exchange(event, slot));
        there.fails("P26 " + what, due, x -> x.chain(event, slot));
    }

    private static void exchanges(String what, TimetableBuilder x, int event, int slot, int members, String places) {
        Check.due("P26 " + what, members, () -> x.chain(event, slot));
        Check.due("P25 " + what, Integer.bitCount(members), () -> x.exchange(event, slot));
        Check.same("P25 " + what + ", the places", places, Check.places(x));
    }

    // "Throws IndexOutOfBoundsException if there is no such event or slot", first of all

    private static void refusesEventsAndSlots() {
        for (int event : Scene.NO_EVENTS) {
            both(SCENE, "event " + event, Check.INDEX, event, 0);
            both(SCENE, "event " + event + ", slot 10", Check.INDEX, event, 10);
        }
        both(FULL, "event 14 of 14", Check.INDEX, 14, 5);
        for (int slot : Check.outside(10)) {
            both(SCENE, "slot " + slot, Check.INDEX, 3, slot);
            both(SCENE, "slot " + slot + " comes before not placed", Check.INDEX, 4, slot);
            both(SCENE, "slot " + slot + " comes before the length", Check.INDEX, 1, slot);
            both(SCENE, "slot " + slot + " comes before fixed", Check.INDEX, 0, slot);
        }
    }

    // "IllegalStateException if the event is not placed, has the length 2, or takes this slot"

    private static void refusesStates() {
        both(SCENE, "not placed", Check.STATE, 4, 0);
        both(SCENE, "not placed any more", Check.STATE, 7, 7);
        both(FULL, "the last of 14, not placed", Check.STATE, 13, 9);
        both(SCENE, "two slots", Check.STATE, 1, 0);
        both(SCENE, "two slots, the first of them", Check.STATE, 1, 2);
        both(SCENE, "two slots, the second of them", Check.STATE, 1, 3);
        both(SCENE, "its own slot", Check.STATE, 3, 4);
        both(SCENE, "its own slot comes before fixed", Check.STATE, 0, 1);
        SCENE.asks("P26 a fixed one has a chain", 1, x -> x.chain(0, 0));
        SCENE.asks("P26 the chain with a fixed one", 4 + 8, x -> x.chain(3, 2));
    }

    // "the least set of events that contains it"

    private static void alone() {
        TimetableBuilder x = Check.with("0:0", "1:1", "2:2");
        x.place(0, 0);
        x.place(1, 1);
        x.place(2, 6);
        for (int slot = 1; slot < 10; slot++) {
            int s = slot;
            Check.due("P26 nothing in common, slot " + s, 1, () -> x.chain(0, s));
            Check.due("P26 of the second, slot " + s, 2, () -> x.chain(1, s));
        }
        Check.due("P26 of the third", 4, () -> x.chain(2, 0));
    }

    // "slot: the other slot"; slots are numbered from 0 to 9

    private static void everySlot() {
        for (int slot = 0; slot < 10; slot++) {
            for (int other = 0; other < 10; other++) {
                int s = slot;
                int t = other;
                if (s == t) {
                    continue;
                }
                TimetableBuilder x = Check.with("0:0", "1:0");
                x.place(0, 6 * s + 3);
                x.place(1, 6 * t + 4);
                exchanges("slots " + s + " and " + t, x, 0, t, 3, 6 * t + " " + 6 * s);
            }
        }
    }

    // "all placed events that take s or t and have its teacher or a group in common with it"

    private static void teacherOrGroup() {
        TimetableBuilder x = Check.with("0:0,1", "0:2", "3:1,4", "3:5", "4:0", "5:3");
        x.place(0, 0);
        x.place(1, 6);
        x.place(2, 7);
        x.place(5, 8);
        Check.due("P26 its teacher and one of its groups", 1 + 2 + 4, () -> x.chain(0, 1));
        x.place(3, 1);
        Check.due("P26 the teacher of another one", 1 + 2 + 4 + 8, () -> x.chain(0, 1));
        Check.due("P26 the group is not placed", 1 + 2 + 4 + 8, () -> x.chain(3, 1));
        x.place(4, 9);
        Check.due("P26 now it is", 1 + 2 + 4 + 8 + 16, () -> x.chain(3, 1));
        Check.due("P26 nothing in common", 32, () -> x.chain(5, 0));
    }

    private static void onlyTheTwoSlots() {
        TimetableBuilder x = Check.with("0:0", "0:0", "0:0", "0:1");
        x.place(0, 0);
        x.place(1, 12);
        x.place(2, 18);
        x.place(3, 54);
        Check.due("P26 slot 1 is empty", 1, () -> x.chain(0, 1));
        Check.due("P26 slot 2", 1 + 2, () -> x.chain(0, 2));
        Check.due("P26 slot 3", 1 + 4, () -> x.chain(0, 3));
        Check.due("P26 slot 9", 1 + 8, () -> x.chain(0, 9));
        Check.due("P26 slots 2 and 3", 2 + 4, () -> x.chain(1, 3));
    }

    private static void longOnesInChains() {
        TimetableBuilder x = Check.with("0:0", "0:1*2", "1:1", "1:2", "2:2");
        x.place(0, 0);
        x.place(1, 12);
        x.place(2, 24);
        Check.due("P26 before it", 1, () -> x.chain(0, 1));
        Check.due("P26 its first slot", 1 + 2, () -> x.chain(0, 2));
        Check.due("P26 its second slot", 1 + 2, () -> x.chain(0, 3));
        Check.due("P26 behind it", 1, () -> x.chain(0, 4));
        Check.due("P26 from behind to its second slot", 2 + 4, () -> x.chain(2, 3));
        x.place(3, 0 + 1);
        x.place(2, 6);
        Check.due("P26 it stands in neither of the slots", 4 + 8, () -> x.chain(2, 0));
    }

    private static void overManyEvents() {
        TimetableBuilder x = Check.with("0:0", "1:0", "1:1", "2:1", "2:2", "3:2", "3:3", "4:3", "4:4", "5:4", "5:5", "0:5");
        for (int event = 0; event < 6; event++) {
            x.place(2 * event, event);
            if (event < 5) {
                x.place(2 * event + 1, 6 + event);
            }
        }
        int all = 0b10101010101 | 0b1010101010;
        for (int event = 0; event <= 10; event++) {
            int e = event;
            Check.due("P26 eleven in a chain, from " + e, all, () -> x.chain(e, e % 2 == 0 ? 1 : 0));
        }
        x.place(11, 11);
        Check.due("P26 twelve in a ring", all | 1 << 11, () -> x.chain(7, 0));
        x.unplace(4);
        x.unplace(9);
        Check.due("P26 one part of the ring", 0b111100000, () -> x.chain(6, 1));
        Check.due("P26 the other part", 0b110000001111, () -> x.chain(3, 0));
    }

    // "Returns the set, bit e for event e."

    private static void theLastEvent() {
        TimetableBuilder x = new TimetableBuilder();
        for (int event = 0; event < 14; event++) {
            Check.add(x, "0:0");
        }
        x.place(13, 0);
        Check.due("P26 event 13 alone", 1 << 13, () -> x.chain(13, 9));
        x.place(12, 54);
        Check.due("P26 events 12 and 13", 3 << 12, () -> x.chain(13, 9));
        Check.due("P25 two events", 2, () -> x.exchange(12, 0));
        Check.due("P25 where 13 is", 54, () -> x.event(13, 5));
    }

    // "all its events in s get places in t and all those in t get places in s", "Returns the number of events"

    private static void exchangeEmptySlots() {
        TimetableBuilder x = Check.with("0:0");
        x.place(0, 5);
        exchanges("to the last slot", x, 0, 9, 1, "54");
        exchanges("to the first slot", x, 0, 0, 1, "0");
    }

    private static void exchangeBothWays() {
        TimetableBuilder x = Check.with("0:0", "0:1", "1:0", "1:1", "2:2");
        x.place(0, 0);
        x.place(1, 9);
        x.place(2, 10);
        x.place(3, 4);
        x.place(4, 7);
        exchanges("two against two", x, 0, 1, 15, "6 0 1 8 7");
        exchanges("and back", x, 3, 0, 15, "0 6 8 1 7");
        TimetableBuilder y = Check.with("0:0,1,2", "1:0", "2:1", "3:2");
        for (int event = 1; event <= 3; event++) {
            y.place(event, 6 + event);
        }
        y.place(0, 0);
        exchanges("one against three", y, 2, 0, 15, "6 0 1 2");
    }

    // "It can be exchanged if all its events have the length 1 and are not fixed"

    private static void refusesLongOnes() {
        for (int at = 1; at <= 2; at++) {
            int first = 6 * at;
            Refusals there = new Refusals(() -> {
                TimetableBuilder x = Check.with("0:0", "1:0*2");
                x.place(0, 24);
                x.place(1, first);
                return x;
            });
            there.asks("P26 a long one at " + at, 3, x -> x.chain(0, 2));
            there.unsupported("P25 a long one at " + at, x -> x.exchange(0, 2));
        }
    }

    private static void refusesFixedOnes() {
        for (int event = 0; event < 3; event++) {
            int e = event;
            Refusals there = new Refusals(() -> threeInAChain(e));
            for (int other = 0; other < 3; other++) {
                int o = other;
                there.unsupported("P25 event " + e + " is fixed, from " + o, x -> x.exchange(o, o == 1 ? 0 : 1));
            }
        }
        TimetableBuilder free = threeInAChain(3);
        exchanges("a fixed one that is not in the chain", free, 0, 1, 7, "6 0 7 2");
        Check.due("P16 it is fixed", 1, () -> free.event(3, 6));
        Check.due("P16 the others are not", 1, () -> free.count(2));
    }

    private static TimetableBuilder threeInAChain(int fixed) {
        TimetableBuilder x = Check.with("0:0", "1:0,1", "2:1", "3:3");
        x.place(0, 0);
        x.place(1, 6);
        x.place(2, 1);
        x.place(3, 2);
        x.fix(fixed, true);
        return x;
    }

    // "and the teacher of each of them is available in the slot of s and t in which the event is not"

    private static void teachersThere() {
        for (int away = 0; away < 3; away++) {
            int slots = away == 1 ? 2 : 1;
            int a = away;
            Refusals there = new Refusals(() -> {
                TimetableBuilder x = threeInAChain(3);
                x.setTeacher(a, slots);
                return x;
            });
            there.asks("P26 the teacher does not matter here", 7, x -> x.chain(0, 1));
            for (int event = 0; event < 3; event++) {
                int e = event;
                String what = "P25 teacher " + a + " is only where it is, from " + e;
                there.unsupported(what, x -> x.exchange(e, e == 1 ? 0 : 1));
            }
            TimetableBuilder y = threeInAChain(3);
            y.setTeacher(a, 3);
            exchanges("teacher " + a + " in both slots", y, 0, 1, 7, "6 0 7 2");
        }
        TimetableBuilder w = Check.with("0:0", "1:0");
        w.place(0, 6 * 7);
        w.place(1, 6 * 3);
        w.setTeacher(0, 8 + 128);
        w.setTeacher(1, 8);
        Check.fails("P25 one of two in other slots", Check.UNSUPPORTED, () -> w.exchange(0, 3));
        Check.fails("P25 from the other one", Check.UNSUPPORTED, () -> w.exchange(1, 7));
        w.setTeacher(1, 8 + 128);
        exchanges("both in both slots", w, 0, 3, 3, "18 42");
        TimetableBuilder z = threeInAChain(3);
        z.setTeacher(3, 1);
        exchanges("a teacher outside of the chain", z, 0, 1, 7, "6 0 7 2");
    }

    // "get rooms that no event outside of the chain takes in this slot"

    private static void roomsOutsideOfTheChain() {
        for (int taken = 0; taken <= 4; taken++) {
            TimetableBuilder x = outside(taken);
            Check.due("P25 rooms taken: " + taken, 1, () -> x.exchange(5, 1));
            Check.due("P25 the first room behind them", 6 + taken, () -> x.event(5, 5));
        }
        TimetableBuilder x = outside(5);
        Check.due("P25 the last room", 1, () -> x.exchange(5, 1));
        Check.due("P25 it is the last one", 11, () -> x.event(5, 5));
        Refusals none = new Refusals(() -> {
            TimetableBuilder y = outside(4);
            y.setRoom(4, 9, 0);
            y.setRoom(5, 9, 0);
            return y;
        });
        none.unsupported("P25 no room is left", y -> y.exchange(5, 1));
    }

    /** So many events in slot 1, from room 0 on; event 5 in slot 0 has nothing in common with them. */
    private static TimetableBuilder outside(int taken) {
        TimetableBuilder x = Check.with("0:0", "1:1", "2:2", "3:3", "4:4", "5:5");
        for (int event = 0; event < taken; event++) {
            x.place(event, 6 + event);
        }
        x.place(5, 0);
        return x;
    }

    private static void secondSlotsTakeRooms() {
        TimetableBuilder x = Check.with("0:0", "1:1*2", "2:2*2", "3:3*2");
        x.place(0, 30);
        x.place(1, 0);
        x.place(2, 7);
        x.place(3, 18);
        exchanges("a second slot and a first one take rooms", x, 0, 1, 1, "8 0 7 18");
        exchanges("a second slot alone", x, 0, 4, 1, "25 0 7 18");
        exchanges("the slot behind a second one", x, 0, 5, 1, "30 0 7 18");
    }

    private static void roomsOfTheChain() {
        TimetableBuilder x = Scene.inOneRoom("0:0", "1:0");
        x.place(0, 0);
        x.place(1, 6);
        exchanges("each gets the room that the other one leaves", x, 0, 1, 3, "6 0");
        Refusals apart = new Refusals(() -> {
            TimetableBuilder z = Scene.inOneRoom("0:0", "1:1");
            z.place(0, 0);
            z.place(1, 6);
            return z;
        });
        apart.unsupported("P25 not in the chain, it leaves none", z -> z.exchange(0, 1));
    }

    // "with sufficient capacities and all needed features"

    private static void capacitiesAndFeatures() {
        TimetableBuilder x = Check.with("0:0,1/6");
        int[] capacities = {19, 99, 20, 20, 21, 99};
        int[] features = {15, 5, 8, 6, 7, 15};
        for (int room = 0; room < 6; room++) {
            x.setRoom(room, capacities[room], features[room]);
        }
        x.place(0, 5);
        exchanges("the first that is large enough and has all", x, 0, 1, 1, "9");
        x.setRoom(3, 20, 4);
        Check.same("P2 it lost its room", "-1", Check.places(x));
        x.place(0, 11);
        exchanges("the next one", x, 0, 0, 1, "4");
        Refusals small = new Refusals(() -> small(19));
        small.unsupported("P25 the only open room is too small by one", y -> y.exchange(0, 1));
        TimetableBuilder z = small(20);
        exchanges("it is just large enough", z, 0, 1, 3, "7 0 6");
    }

    private static TimetableBuilder small(int capacity) {
        TimetableBuilder x = Check.with("0:0,1", "1:0", "2:2");
        Check.onlyRooms(x, 0, 1);
        x.setRoom(1, capacity, 0);
        x.place(0, 0);
        x.place(1, 7);
        x.place(2, 6);
        return x;
    }

    // "a different one for each event that comes to the same slot"

    private static void differentRooms() {
        TimetableBuilder x = Check.with("0:0,1", "1:0", "2:1");
        x.place(0, 0);
        x.place(1, 6);
        x.place(2, 7);
        exchanges("two come to one slot", x, 0, 1, 7, "6 0 1");
        Refusals one = new Refusals(() -> {
            TimetableBuilder y = Scene.inRooms(new int[] {0, 1}, "0:0,1", "1:0", "2:1", "4:4");
            y.place(0, 0);
            y.place(1, 6);
            y.place(2, 7);
            y.place(3, 1);
            return y;
        });
        one.unsupported("P25 one room for two", y -> y.exchange(0, 1));
    }

    // "such that the sequence of these rooms is lexicographically least", "each in ascending order of the events"

    private static void theLeastRooms() {
        TimetableBuilder x = Check.with("1:0", "2:1/1", "0:0,1");
        x.setRoom(0, 30, 1);
        x.setRoom(1, 9, 1);
        x.place(0, 11);
        x.place(1, 6);
        x.place(2, 5);
        exchanges("the first has to leave room 0 to the second", x, 2, 1, 7, "2 0 6");
        TimetableBuilder y = Check.with("1:0/1", "2:1", "0:0,1");
        y.setRoom(0, 30, 1);
        y.place(0, 6);
        y.place(1, 11);
        y.place(2, 5);
        exchanges("the first needs room 0 itself", y, 2, 1, 7, "0 1 6");
        TimetableBuilder z = Check.with("0:1", "1:0", "2:0,1");
        z.place(0, 9);
        z.place(1, 7);
        z.place(2, 5);
        exchanges("by the numbers, not by the rooms", z, 2, 1, 7, "0 1 6");
    }

    private static void othersStay() {
        TimetableBuilder x = Check.with("0:0", "1:0", "0:1", "1:1", "2:2", "3:3*2");
        x.place(0, 0);
        x.place(1, 6);
        x.place(2, 12);
        x.place(3, 18);
        x.place(4, 1);
        x.place(5, 49);
        x.fix(4, true);
        exchanges("only the chain", x, 0, 1, 3, "6 0 12 18 1 49");
        Check.due("P16 the fixed one is fixed", 1, () -> x.event(4, 6));
    }

    private static void exchangeIsOneChange() {
        TimetableBuilder x = threeInAChain(3);
        x.undo();
        x.undo();
        x.exchange(0, 1);
        Check.due("P25 one change more", 5, () -> x.count(4));
        Check.due("P34 taken back at once", 4, x::undo);
        Check.same("P34 all three as before", "0 6 1 -1", Check.places(x));
    }
}
