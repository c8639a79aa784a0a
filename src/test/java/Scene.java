/** Builders that the tests of boundary cases begin with. */
final class Scene {
    /** Events that rich() does not have. */
    static final int[] NO_EVENTS = {-1, 9, 14, Integer.MIN_VALUE, Integer.MAX_VALUE};

    private Scene() {
    }

    /**
     * Something of everything, so that no call that is refused here can leave a trace unseen: a full row of changes,
     * each of another kind, a saved and a marked table that are not the present one, an error, a text in the buffer.
     * 0 "0:0" fixed at 6, 1 "1:1*2" at 13, 2 "2:2/5" fixed at 17, 3 "0:2,3" at 24; not placed: 4 "3:5", too large for
     * most rooms, 5 "5:3", whose teacher never comes, 6 "4:0,1/8", 7 "1:4", 8 "0:1".
     */
    static TimetableBuilder rich() {
        TimetableBuilder x = new TimetableBuilder();
        x.setWeight(0, 2);
        x.setWeight(1, 3);
        x.setWeight(2, 5);
        x.setRoom(1, 40, 5);
        x.setRoom(4, 0, 0);
        x.setRoom(5, 99, 15);
        x.setGroup(4, 0);
        x.setGroup(5, 40);
        x.setTeacher(5, 0);
        for (String text : new String[] {"0:0,1", "1:1*2", "2:2/5", "0:2,3", "3:5", "5:3", "4:0,1/8", "1:4"}) {
            Check.add(x, text);
        }
        x.place(0, 6);
        x.place(1, 13);
        x.place(2, 17);
        x.place(3, 18);
        x.place(7, 46);
        x.fix(0, true);
        x.mark();
        x.save();
        Check.type(x, "0:0/16");
        Check.answer(x::addEvent);
        x.place(3, 24);
        x.setRoom(2, 25, 2);
        x.setWeight(1, 4);
        x.fix(2, true);
        x.split(0, 2);
        x.unplace(7);
        Check.type(x, "2:1,3/7*2");
        return x;
    }

    /** 14 events, of which the first three are placed, and a good text in the buffer. */
    static TimetableBuilder full() {
        TimetableBuilder x = new TimetableBuilder();
        for (int event = 0; event < 14; event++) {
            Check.add(x, event % 6 + ":" + event % 5 + ",5");
        }
        x.place(0, 0);
        x.place(1, 6);
        x.place(2, 12);
        x.fix(1, true);
        Check.type(x, "3:0/9");
        return x;
    }

    /** A builder in which only these rooms keep a capacity. */
    static TimetableBuilder inRooms(int[] rooms, String... texts) {
        TimetableBuilder x = new TimetableBuilder();
        Check.onlyRooms(x, rooms);
        for (String text : texts) {
            Check.add(x, text);
        }
        return x;
    }

    static TimetableBuilder inOneRoom(String... texts) {
        return inRooms(new int[] {0}, texts);
    }
}
