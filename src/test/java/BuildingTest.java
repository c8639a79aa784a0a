/** Promises 23 to 27: insert, build, exchange, chain, improve. */
final class BuildingTest {
    public static void main(String[] args) {
        insertWithoutMoves();
        insertWithOneMove();
        insertWithTwoMoves();
        insertTakesFewestMoves();
        insertFails();
        build();
        buildOrder();
        chain();
        exchange();
        exchangeRooms();
        exchangeFails();
        improve();
        improveOrder();
        Check.end();
    }

    private static void insertWithoutMoves() {
        TimetableBuilder x = Check.with("0:0", "1:0", "2:1");
        Check.due("the lowest place", 0, () -> x.insert(0));
        Check.due("the lowest without an obstacle", 0, () -> x.insert(1));
        Check.due("again", 0, () -> x.insert(2));
        Check.same("their places", "0 6 1", Check.places(x));
        Check.fails("placed already", Check.STATE, () -> x.insert(0));
        Check.fails("event 3", Check.INDEX, () -> x.insert(3));
        Check.fails("event -1", Check.INDEX, () -> x.insert(-1));
    }

    private static TimetableBuilder oneRoom(String... texts) {
        TimetableBuilder x = new TimetableBuilder();
        Check.onlyRooms(x, 0);
        for (String text : texts) {
            Check.add(x, text);
        }
        return x;
    }

    private static void insertWithOneMove() {
        TimetableBuilder x = oneRoom("0:0", "1:1", "2:2");
        x.setTeacher(0, 1 + 2 + 16);
        x.setTeacher(1, 2 + 8);
        x.setTeacher(2, 1 + 2);
        x.place(0, 0);
        x.place(1, 6);
        Check.due("one moves", 1, () -> x.insert(2));
        Check.same("to its least place", "24 6 0", Check.places(x));
        Check.due("an insertion is one change", 5, x::undo);
        Check.same("as before", "0 6 -1", Check.places(x));
        x.fix(0, true);
        Check.due("the fixed one stays", 1, () -> x.insert(2));
        Check.same("the other one moves", "0 18 6", Check.places(x));
        Check.due("it is still fixed", 1, () -> x.event(0, 6));
    }

    private static void insertWithTwoMoves() {
        TimetableBuilder x = oneRoom("0:0", "1:1", "2:2*2");
        x.setTeacher(0, 1 + 4 + 8);
        x.setTeacher(1, 2 + 4);
        x.setTeacher(2, 1 + 2);
        x.place(0, 0);
        x.place(1, 6);
        Check.due("two move", 2, () -> x.insert(2));
        Check.same("the first makes way for the second", "18 12 0", Check.places(x));
        Check.due("one change", 5, x::undo);
        x.setTeacher(1, 2 + 4 + 8);
        Check.due("two move again", 2, () -> x.insert(2));
        Check.same("the least sequence", "12 18 0", Check.places(x));
    }

    private static void insertTakesFewestMoves() {
        TimetableBuilder x = oneRoom("0:0", "1:1", "2:2*2");
        x.setTeacher(2, 1 + 2 + 32 + 64);
        x.place(0, 0);
        x.place(1, 36);
        Check.due("one move at a later place, or an earlier one", 1, () -> x.insert(2));
        Check.same("the lowest place with one hindering event", "12 36 0", Check.places(x));
        TimetableBuilder y = oneRoom("0:0", "1:1", "2:2*2", "3:3");
        y.setTeacher(2, 1 + 2 + 32 + 64);
        y.place(0, 0);
        y.place(1, 6);
        y.place(3, 30);
        Check.due("two hinder at the first place, one at the second", 1, () -> y.insert(2));
        Check.same("so the one moves", "0 6 30 12", Check.places(y));
    }

    private static void insertFails() {
        TimetableBuilder x = oneRoom("0:0", "1:1", "2:2*2", "3:3", "4:2/1");
        x.setTeacher(0, 3);
        x.setTeacher(1, 3);
        x.setTeacher(2, 3);
        x.place(0, 0);
        x.place(1, 6);
        int changes = x.count(4);
        Check.fails("the two could only change places", Check.UNSUPPORTED, () -> x.insert(2));
        Check.fails("no suitable place", Check.UNSUPPORTED, () -> x.insert(4));
        Check.same("all as before", "0 6 -1 -1 -1", Check.places(x));
        Check.due("no change", changes, () -> x.count(4));
        x.setTeacher(0, 1023);
        x.setTeacher(1, 1023);
        x.fix(1, true);
        Check.fails("one of two is fixed", Check.UNSUPPORTED, () -> x.insert(2));
        x.fix(1, false);
        Check.due("neither is", 2, () -> x.insert(2));
        failedInsertForgetsNothing();
        threeHinder();
    }

    private static void failedInsertForgetsNothing() {
        TimetableBuilder x = Check.with("0:0");
        x.setTeacher(0, 0);
        for (int weight = 2; weight <= 7; weight++) {
            x.setWeight(0, weight);
        }
        Check.fails("cannot be inserted", Check.UNSUPPORTED, () -> x.insert(0));
        for (int left = 5; left >= 0; left--) {
            int k = left;
            Check.due("all six changes are still there", k, x::undo);
        }
        Check.due("back to the first", 1, () -> x.setWeight(0, 1));
    }

    private static void threeHinder() {
        TimetableBuilder x = Check.with("0:0", "1:1", "2:2", "3:0,1,2");
        x.setTeacher(3, 1);
        x.place(0, 1);
        x.place(1, 2);
        x.place(2, 3);
        Check.fails("three are too many", Check.UNSUPPORTED, () -> x.insert(3));
        x.unplace(2);
        Check.due("two are not", 2, () -> x.insert(3));
        Check.same("both go to their least places", "6 7 -1 0", Check.places(x));
    }

    private static void build() {
        TimetableBuilder x = Check.with("0:0", "1:0", "2:1/1");
        Check.due("one cannot be inserted", 1, x::build);
        Check.same("the others are", "0 6 -1", Check.places(x));
        Check.due("one change", 4, () -> x.count(4));
        Check.due("nothing to do is a change too", 1, x::build);
        Check.due("so five", 5, () -> x.count(4));
        x.undo();
        x.undo();
        Check.same("taken back whole", "-1 -1 -1", Check.places(x));
        Check.due("without events", 0, () -> new TimetableBuilder().build());
    }

    private static void buildOrder() {
        TimetableBuilder x = Check.with("0:0", "1:1", "2:2,3", "3:4");
        x.setTeacher(3, 3);
        x.setTeacher(1, 7);
        x.setTeacher(0, 7);
        x.setTeacher(2, 7);
        Check.onlyRooms(x, 5);
        Check.due("the last one cannot be", 1, x::build);
        // Three slots are there: the fewest places first, then the two groups, then the lower number.
        Check.same("in order of places, groups, numbers", "17 -1 11 5", Check.places(x));
        TimetableBuilder y = oneRoom("0:0", "1:1");
        y.setTeacher(0, 1);
        y.setTeacher(1, 3);
        y.place(0, 0);
        y.fix(0, true);
        Check.due("placed ones stay", 0, y::build);
        Check.same("fixed", "0 6", Check.places(y));
        TimetableBuilder z = oneRoom("0:0", "1:1", "2:2");
        z.setTeacher(0, 1 + 2 + 4);
        z.setTeacher(1, 1 + 2);
        z.setTeacher(2, 1 + 2);
        z.place(0, 0);
        Check.due("a placed one makes way", 0, z::build);
        Check.same("so that all have places", "12 6 0", Check.places(z));
    }

    private static void chain() {
        TimetableBuilder x = Check.with("0:0", "1:0,1", "1:2", "2:3", "3:2*2", "4:4", "0:1", "2:5");
        x.place(0, 0);
        x.place(1, 6);
        x.place(2, 1);
        x.place(3, 7);
        x.place(4, 50);
        x.place(5, 2);
        Check.due("over teachers and groups", 1 + 2 + 4, () -> x.chain(0, 1));
        Check.due("from another end", 1 + 2 + 4, () -> x.chain(1, 0));
        Check.due("alone", 8, () -> x.chain(3, 0));
        Check.due("a slot that nobody takes", 1, () -> x.chain(0, 9));
        x.place(4, 14);
        x.unplace(2);
        x.place(2, 3);
        Check.due("a long one in another slot", 4, () -> x.chain(2, 4));
        x.place(2, 0 + 3);
        Check.due("a long one in its first slot", 4 + 16, () -> x.chain(2, 2));
        Check.due("a long one in its second slot", 4 + 16, () -> x.chain(2, 3));
        Check.due("chain is no change", 6, () -> x.count(4));
        Check.fails("event 8", Check.INDEX, () -> x.chain(8, 0));
        Check.fails("event -1", Check.INDEX, () -> x.chain(-1, 0));
        Check.fails("slot 10", Check.INDEX, () -> x.chain(0, 10));
        Check.fails("slot -1", Check.INDEX, () -> x.chain(0, -1));
        Check.fails("slot 10, not placed", Check.INDEX, () -> x.chain(7, 10));
        Check.fails("not placed", Check.STATE, () -> x.chain(7, 0));
        Check.fails("not placed, whatever the slot", Check.STATE, () -> x.chain(7, 5));
        Check.fails("a long one", Check.STATE, () -> x.chain(4, 0));
        Check.fails("its own slot", Check.STATE, () -> x.chain(0, 0));
        longChain();
    }

    private static void longChain() {
        TimetableBuilder x = Check.with("0:0", "4:0", "0:2", "4:5", "5:3,5", "1:2");
        x.place(0, 0);
        x.place(1, 6);
        x.place(2, 7);
        x.place(3, 1);
        x.place(4, 8);
        x.place(5, 2);
        Check.due("each member brings its teacher and its groups", 63, () -> x.chain(0, 1));
        Check.due("the whole chain from its end", 63, () -> x.chain(4, 0));
    }

    private static void exchange() {
        TimetableBuilder x = Check.with("0:0", "1:0,1", "1:2", "5:5");
        x.place(0, 3);
        x.place(1, 9);
        x.place(2, 4);
        x.place(3, 6);
        Check.due("three events", 3, () -> x.exchange(0, 1));
        Check.same("the rooms are the least open ones", "7 0 8 6", Check.places(x));
        Check.due("one change", 5, x::undo);
        Check.same("as before", "3 9 4 6", Check.places(x));
        Check.due("one alone", 1, () -> x.exchange(3, 9));
        Check.same("to the first room", "3 9 4 54", Check.places(x));
    }

    private static void exchangeRooms() {
        TimetableBuilder x = Check.with("0:0", "0:1/1", "1:0,2/2", "1:3", "4:4");
        x.setRoom(0, 30, 3);
        x.setRoom(1, 30, 1);
        x.setRoom(2, 30, 2);
        x.place(0, 3);
        x.place(2, 6 + 2);
        x.place(3, 4);
        Check.due("the chain", 1 + 4 + 8, () -> x.chain(0, 1));
        x.place(4, 6);
        Check.due("all three", 3, () -> x.exchange(0, 1));
        Check.same("with features and without", "7 -1 0 8 6", Check.places(x));
        TimetableBuilder y = Check.with("0:0", "0:1", "1:1/1");
        Check.onlyRooms(y, 0, 1);
        y.setRoom(0, 30, 1);
        y.place(0, 7);
        y.place(1, 0);
        y.place(2, 6);
        Check.due("two in one slot, the second needs the first room", 7, () -> y.chain(1, 1));
        Check.due("so the first gets the second room", 3, () -> y.exchange(1, 1));
        Check.same("after", "1 6 0", Check.places(y));
        exchangeFittingRooms();
    }

    private static void exchangeFittingRooms() {
        TimetableBuilder x = Check.with("0:0", "0:1,2", "1:0,2", "2:1/1");
        x.setRoom(0, 19, 0);
        x.setRoom(1, 20, 0);
        x.setRoom(2, 20, 1);
        x.place(1, 4);
        x.place(2, 11);
        x.place(3, 8);
        Check.due("two neighbours come to one slot", 3, () -> x.exchange(1, 1));
        Check.same("the capacity is just enough", "-1 7 1 2", Check.places(x));
    }

    private static void exchangeFails() {
        TimetableBuilder x = Check.with("0:0", "1:0", "2:1*2", "3:1,2", "4:5", "5:5");
        x.place(0, 0);
        x.place(1, 6);
        x.place(2, 14);
        x.place(3, 2);
        x.place(4, 40);
        Check.fails("event 6", Check.INDEX, () -> x.exchange(6, 0));
        Check.fails("event -1", Check.INDEX, () -> x.exchange(-1, 0));
        Check.fails("slot 10", Check.INDEX, () -> x.exchange(0, 10));
        Check.fails("slot -1", Check.INDEX, () -> x.exchange(0, -1));
        Check.fails("not placed", Check.STATE, () -> x.exchange(5, 0));
        Check.fails("a long one", Check.STATE, () -> x.exchange(2, 0));
        Check.fails("its own slot", Check.STATE, () -> x.exchange(0, 0));
        Check.fails("a long one in the chain", Check.UNSUPPORTED, () -> x.exchange(3, 2));
        x.fix(1, true);
        int changes = x.count(4);
        Check.fails("a fixed one in the chain", Check.UNSUPPORTED, () -> x.exchange(0, 1));
        Check.fails("a fixed one itself", Check.UNSUPPORTED, () -> x.exchange(1, 0));
        Check.due("no change", changes, () -> x.count(4));
        x.fix(1, false);
        x.setTeacher(1, 1023 & ~1);
        Check.fails("a teacher is not available", Check.UNSUPPORTED, () -> x.exchange(0, 1));
        x.setTeacher(1, 3);
        Check.due("only these two slots matter", 2, () -> x.exchange(0, 1));
        Check.onlyRooms(x, 0);
        x.place(4, 54);
        Check.fails("no open room", Check.UNSUPPORTED, () -> x.exchange(0, 9));
        Check.same("as before", "6 0 -1 -1 54 -1", Check.places(x));
    }

    private static void improve() {
        TimetableBuilder x = Check.with("0:0", "1:0", "2:1");
        x.place(0, 0);
        x.place(1, 18);
        Check.due("two gaps, two slacks, one unplaced", 2 + 4 + 100, () -> x.cost(4));
        Check.due("one step is enough", 1, () -> x.improve(5));
        Check.same("the lowest event and place of the cheapest", "12 18 -1", Check.places(x));
        Check.due("none more", 0, () -> x.improve(1));
        Check.due("a change all the same", 6, () -> x.count(4));
        x.undo();
        x.undo();
        Check.same("taken back", "0 18 -1", Check.places(x));
        x.fix(0, true);
        Check.due("a step of the other one", 1, () -> x.improve(1));
        Check.same("the fixed one stays", "0 6 -1", Check.places(x));
        Check.fails("0 steps", Check.ARGUMENT, () -> x.improve(0));
        Check.fails("6 steps", Check.ARGUMENT, () -> x.improve(6));
        Check.fails("-1 steps", Check.ARGUMENT, () -> x.improve(-1));
        Check.due("without events", 0, () -> new TimetableBuilder().improve(5));
    }

    private static void improveOrder() {
        TimetableBuilder x = Check.with("0:0", "1:1", "2:2", "3:3", "4:4", "5:5");
        for (int event = 0; event < 6; event++) {
            x.place(event, 24 + event);
        }
        Check.due("no more steps than wanted", 2, () -> x.improve(2));
        Check.same("the lower ones first", "0 1 26 27 28 29", Check.places(x));
        x.setRoom(3, 10, 0);
        Check.due("one more", 1, () -> x.improve(1));
        Check.same("where the slack is least too", "0 1 3 27 28 29", Check.places(x));
        Check.due("up to five", 5, () -> x.improve(5));
        Check.due("until none is possible", 0, () -> x.improve(5));
    }
}
