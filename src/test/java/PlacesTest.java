/** Promises 14 to 22: place, unplace, fix, obstacle, places, free, hindering, at, taken. */
final class PlacesTest {
    public static void main(String[] args) {
        place();
        unplace();
        fix();
        obstacle();
        lowestObstacle();
        places();
        free();
        hindering();
        at();
        taken();
        Check.end();
    }

    private static void place() {
        TimetableBuilder x = Check.with("0:0", "1:0", "0:1*2");
        Check.due("the first place", -1, () -> x.place(0, 0));
        Check.due("the same place", 0, () -> x.place(0, 0));
        Check.due("another place", 0, () -> x.place(0, 59));
        Check.due("it is there", 59, () -> x.event(0, 5));
        Check.due("a long one", -1, () -> x.place(2, 0));
        Check.due("a long one onto itself", 0, () -> x.place(2, 6));
        Check.fails("event 3", Check.INDEX, () -> x.place(3, 0));
        Check.fails("event -1", Check.INDEX, () -> x.place(-1, 0));
        Check.fails("place 60", Check.INDEX, () -> x.place(0, 60));
        Check.fails("place -1", Check.INDEX, () -> x.place(0, -1));
        Check.fails("the room is taken", Check.STATE, () -> x.place(1, 12));
        Check.fails("the group is taken", Check.STATE, () -> x.place(1, 54));
        Check.fails("beyond the day", Check.STATE, () -> x.place(2, 24));
        Check.due("four changes were made and one before", 6, () -> x.count(4));
        x.fix(0, true);
        Check.fails("a fixed one", Check.UNSUPPORTED, () -> x.place(0, 0));
        Check.fails("a fixed one at its place", Check.UNSUPPORTED, () -> x.place(0, 59));
        Check.fails("a fixed one where an obstacle is", Check.UNSUPPORTED, () -> x.place(0, 6));
        Check.fails("a fixed one without a place", Check.INDEX, () -> x.place(0, 60));
        Check.same("nothing moved", "59 -1 6", Check.places(x));
    }

    private static void unplace() {
        TimetableBuilder x = Check.with("0:0", "1:1");
        x.place(0, 17);
        x.fix(0, true);
        Check.fails("event 2", Check.INDEX, () -> x.unplace(2));
        Check.fails("event -1", Check.INDEX, () -> x.unplace(-1));
        Check.fails("not placed", Check.STATE, () -> x.unplace(1));
        Check.due("a fixed one too", 17, () -> x.unplace(0));
        Check.due("not placed any more", -1, () -> x.event(0, 5));
        Check.due("not fixed any more", 0, () -> x.event(0, 6));
        Check.fails("again", Check.STATE, () -> x.unplace(0));
        Check.due("the place is free", 0, () -> x.hindering(1, 17));
    }

    private static void fix() {
        TimetableBuilder x = Check.with("0:0", "1:1");
        x.place(0, 0);
        Check.due("it was not", false, x.fix(0, true));
        Check.due("it is", 1, () -> x.event(0, 6));
        Check.due("it was", true, x.fix(0, true));
        Check.due("it was still", true, x.fix(0, false));
        Check.due("it is not", 0, () -> x.event(0, 6));
        Check.due("it was not again", false, x.fix(0, false));
        Check.fails("not placed", Check.STATE, () -> x.fix(1, true) ? 1 : 0);
        Check.fails("not placed, not fixed", Check.STATE, () -> x.fix(1, false) ? 1 : 0);
        Check.fails("event 2", Check.INDEX, () -> x.fix(2, true) ? 1 : 0);
        Check.fails("event -1", Check.INDEX, () -> x.fix(-1, true) ? 1 : 0);
        Check.due("four fixes, one place, and the second event", 6, () -> x.count(4));
    }

    private static void obstacle() {
        TimetableBuilder x = Check.with("0:0*2", "1:1,2,3/2", "0:4", "5:0", "4:5");
        x.setTeacher(0, 1023 & ~4);
        x.setRoom(1, 29, 2);
        x.setRoom(2, 30, 2);
        x.place(0, 0);
        Check.due("its own place", 0, () -> x.obstacle(0, 0));
        Check.due("beyond the first day", 1, () -> x.obstacle(0, 24));
        Check.due("beyond the second day", 1, () -> x.obstacle(0, 54 + 5));
        Check.due("the slot before the last", 0, () -> x.obstacle(0, 18));
        Check.due("the second slot is not available", 2, () -> x.obstacle(0, 6));
        Check.due("nor the first", 2, () -> x.obstacle(0, 12));
        Check.due("too small", 3, () -> x.obstacle(1, 1));
        Check.due("lacks a feature", 4, () -> x.obstacle(1, 3));
        Check.due("fits", 0, () -> x.obstacle(1, 2));
        Check.due("taken room", 5, () -> x.obstacle(4, 0));
        Check.due("taken room in the second slot", 5, () -> x.obstacle(4, 6));
        Check.due("free room after it", 0, () -> x.obstacle(4, 12));
        Check.due("taken teacher", 6, () -> x.obstacle(2, 11));
        Check.due("taken group", 7, () -> x.obstacle(3, 7));
        Check.due("another slot", 0, () -> x.obstacle(3, 13));
        x.place(4, 12);
        Check.due("a long one into a taken second slot", 5, () -> x.obstacle(3, 12));
        Check.fails("event 5", Check.INDEX, () -> x.obstacle(5, 0));
        Check.fails("event -1", Check.INDEX, () -> x.obstacle(-1, 0));
        Check.fails("place 60", Check.INDEX, () -> x.obstacle(0, 60));
        Check.fails("place -1", Check.INDEX, () -> x.obstacle(0, -1));
    }

    private static void lowestObstacle() {
        TimetableBuilder x = Check.with("0:0", "1:1", "1:0/1*2");
        x.place(0, 0);
        x.place(1, 1);
        x.setGroup(0, 30);
        x.setGroup(0, 31);
        Check.due("the group does not fit any more", -1, () -> x.event(0, 5));
        x.setGroup(0, 10);
        x.place(0, 0);
        Check.due("lacks the feature before all that is taken", 4, () -> x.obstacle(2, 0));
        x.setRoom(0, 9 + 1, 1);
        x.setRoom(2, 10, 1);
        Check.due("the room before teacher and group", 5, () -> x.obstacle(2, 0));
        Check.due("the teacher before the group", 6, () -> x.obstacle(2, 2));
        x.setRoom(2, 9, 0);
        Check.due("the capacity before the features", 3, () -> x.obstacle(2, 2));
        x.setTeacher(1, 1);
        Check.due("the teacher before the capacity", 2, () -> x.obstacle(2, 2));
        x.setTeacher(1, 0);
        Check.due("the day before the teacher", 1, () -> x.obstacle(2, 24 + 2));
    }

    private static void places() {
        TimetableBuilder x = Check.with("0:0*2", "1:1", "0:2", "2:0", "3:3,4/1");
        x.setTeacher(0, 1023 & ~(1 << 7));
        x.setRoom(5, 9, 1);
        x.setRoom(4, 20, 1);
        x.place(1, 0);
        x.place(2, 7);
        x.place(3, 14);
        int[] due = new int[8];
        for (int place = 0; place < 60; place++) {
            due[x.obstacle(0, place)]++;
        }
        for (int obstacle = 0; obstacle <= 7; obstacle++) {
            int k = obstacle;
            Check.due("places with obstacle " + k, due[k], () -> x.places(0, k));
        }
        Check.due("beyond", 12, () -> x.places(0, 1));
        Check.due("away", 12, () -> x.places(0, 2));
        Check.due("small", 6, () -> x.places(0, 3));
        Check.due("without features, none lacks them", 0, () -> x.places(0, 4));
        Check.due("small for two groups", 10, () -> x.places(4, 3));
        Check.due("lacking", 40, () -> x.places(4, 4));
        Check.due("free", 10, () -> x.places(4, 0));
        Check.fails("event 5", Check.INDEX, () -> x.places(5, 8));
        Check.fails("event -1", Check.INDEX, () -> x.places(-1, 0));
        Check.fails("obstacle 8", Check.ARGUMENT, () -> x.places(0, 8));
        Check.fails("obstacle -1", Check.ARGUMENT, () -> x.places(0, -1));
    }

    private static void free() {
        TimetableBuilder x = Check.with("0:0", "0:1");
        Check.onlyRooms(x, 1, 4);
        x.setTeacher(0, 1 << 3 | 1 << 9);
        x.place(0, 19);
        Check.due("its own place is free for it", 19, () -> x.free(0, 0));
        Check.due("the second", 22, () -> x.free(0, 1));
        Check.due("the third", 55, () -> x.free(0, 2));
        Check.due("the fourth", 58, () -> x.free(0, 3));
        Check.fails("no fifth", Check.NO_ELEMENT, () -> x.free(0, 4));
        Check.due("the other one's first", 55, () -> x.free(1, 0));
        Check.fails("the other one's third", Check.NO_ELEMENT, () -> x.free(1, 2));
        Check.fails("index -1", Check.NO_ELEMENT, () -> x.free(0, -1));
        Check.fails("a large index", Check.NO_ELEMENT, () -> x.free(0, Integer.MAX_VALUE));
        Check.fails("event 2", Check.INDEX, () -> x.free(2, -1));
        Check.fails("event -1", Check.INDEX, () -> x.free(-1, 0));
    }

    private static void hindering() {
        TimetableBuilder x = Check.with("0:0*2", "1:1", "0:2", "2:0,1", "3:3", "4:4");
        x.place(1, 24);
        x.place(2, 25);
        x.place(4, 30);
        Check.due("the room and the teacher", 2 + 4, () -> x.hindering(0, 24));
        Check.due("an event at the next day's first slot is left out", 0, () -> x.hindering(5, 27));
        Check.due("also for a long one in the last slot", 4, () -> x.hindering(0, 28));
        Check.due("a long one reaches the last slot", 4, () -> x.hindering(0, 18 + 2));
        Check.due("the group", 2, () -> x.hindering(3, 27));
        x.setRoom(0, 0, 0);
        Check.due("unplaced ones hinder no more", 4, () -> x.hindering(0, 24));
        x.place(4, 33);
        Check.due("whatever its obstacle is", 16, () -> x.hindering(5, 33));
        x.setTeacher(4, 0);
        Check.due("even without a teacher", 16, () -> x.hindering(5, 33));
        Check.due("not itself", 0, () -> x.hindering(4, 33));
        Check.fails("event 6", Check.INDEX, () -> x.hindering(6, 0));
        Check.fails("event -1", Check.INDEX, () -> x.hindering(-1, 0));
        Check.fails("place 60", Check.INDEX, () -> x.hindering(0, 60));
        Check.fails("place -1", Check.INDEX, () -> x.hindering(0, -1));
    }

    private static void at() {
        TimetableBuilder x = Check.with("0:0", "1:1*2");
        x.place(0, 59);
        x.place(1, 1);
        Check.due("the last place", 0, () -> x.at(9, 5));
        Check.due("the first slot of a long one", 1, () -> x.at(0, 1));
        Check.due("its second slot", 1, () -> x.at(1, 1));
        Check.fails("the slot after it", Check.NO_ELEMENT, () -> x.at(2, 1));
        Check.fails("another room", Check.NO_ELEMENT, () -> x.at(0, 0));
        Check.fails("slot 10", Check.INDEX, () -> x.at(10, 0));
        Check.fails("slot -1", Check.INDEX, () -> x.at(-1, 0));
        Check.fails("room 6", Check.INDEX, () -> x.at(0, 6));
        Check.fails("room -1", Check.INDEX, () -> x.at(0, -1));
        x.unplace(0);
        Check.fails("not there any more", Check.NO_ELEMENT, () -> x.at(9, 5));
    }

    private static void taken() {
        TimetableBuilder x = Check.with("0:0,3*2", "0:1", "5:3", "5:5");
        x.place(0, 6 * 3 + 2);
        x.place(1, 5 * 6 + 2);
        x.place(2, 9 * 6 + 5);
        Check.due("teacher 0", 8 + 16 + 32, () -> x.taken(0, 0));
        Check.due("teacher 5", 512, () -> x.taken(0, 5));
        Check.due("teacher 1", 0, () -> x.taken(0, 1));
        Check.due("group 0", 24, () -> x.taken(1, 0));
        Check.due("group 3", 24 + 512, () -> x.taken(1, 3));
        Check.due("group 5, not placed", 0, () -> x.taken(1, 5));
        Check.due("room 2", 56, () -> x.taken(2, 2));
        Check.due("room 5", 512, () -> x.taken(2, 5));
        Check.due("room 0", 0, () -> x.taken(2, 0));
        Check.fails("what 3, before the index", Check.ARGUMENT, () -> x.taken(3, 6));
        Check.fails("what -1", Check.ARGUMENT, () -> x.taken(-1, 0));
        for (int what = 0; what <= 2; what++) {
            int k = what;
            Check.fails("index 6", Check.INDEX, () -> x.taken(k, 6));
            Check.fails("index -1", Check.INDEX, () -> x.taken(k, -1));
        }
    }
}
