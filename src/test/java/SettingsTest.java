/** Promises 1 to 6: a new object, rooms, groups, teachers, weights. */
final class SettingsTest {
    public static void main(String[] args) {
        newObject();
        setRoom();
        setGroup();
        setTeacher();
        setWeight();
        setting();
        Check.end();
    }

    private static void newObject() {
        TimetableBuilder x = new TimetableBuilder();
        for (int what = 0; what <= 4; what++) {
            int k = what;
            Check.due("new: count " + k, 0, () -> x.count(k));
            Check.due("new: cost " + k, 0, () -> x.cost(k));
        }
        for (int index = 0; index < 6; index++) {
            int k = index;
            Check.due("new: capacity", 30, () -> x.setting(0, k));
            Check.due("new: features", 0, () -> x.setting(1, k));
            Check.due("new: size", 10, () -> x.setting(2, k));
            Check.due("new: slots", 1023, () -> x.setting(3, k));
        }
        Check.due("new: errorPosition", -1, x::errorPosition);
        Check.due("new: changed", 0, x::changed);
        Check.fails("new: event 0", Check.INDEX, () -> x.event(0, 0));
        Check.fails("new: undo", Check.STATE, x::undo);
        Check.fails("new: restore", Check.STATE, x::restore);
        for (int what = 0; what <= 2; what++) {
            int k = what;
            Check.due("new: weight " + k, 1, () -> x.setWeight(k, 5));
        }
    }

    private static void setRoom() {
        TimetableBuilder x = Check.with("0:0,1", "1:2/5", "2:3");
        Check.due("setRoom without events there", 0, () -> x.setRoom(1, 20, 5));
        x.place(0, 0);
        x.place(1, 1);
        x.place(2, 6);
        x.fix(0, true);
        Check.due("still large enough", 0, () -> x.setRoom(0, 20, 0));
        Check.due("too small for one of two", 1, () -> x.setRoom(0, 19, 15));
        Check.same("after the small room", "-1 1 6", Check.places(x));
        Check.due("not fixed any more", 0, () -> x.event(0, 6));
        Check.due("a feature is lacking", 1, () -> x.setRoom(1, 99, 4));
        Check.due("more features are no matter", 0, () -> x.setRoom(1, 0, 15));
        Check.fails("room -1", Check.INDEX, () -> x.setRoom(-1, 1000, 1000));
        Check.fails("room 6", Check.INDEX, () -> x.setRoom(6, 1, 1));
        Check.fails("capacity -1", Check.ARGUMENT, () -> x.setRoom(0, -1, 0));
        Check.fails("capacity 100", Check.ARGUMENT, () -> x.setRoom(0, 100, 0));
        Check.fails("features -1", Check.ARGUMENT, () -> x.setRoom(0, 0, -1));
        Check.fails("features 16", Check.ARGUMENT, () -> x.setRoom(0, 0, 16));
        Check.due("nothing set by failures", 19, () -> x.setting(0, 0));
        Check.due("the greatest room", 0, () -> x.setRoom(5, 99, 15));
        Check.due("its capacity", 99, () -> x.setting(0, 5));
        Check.due("its features", 15, () -> x.setting(1, 5));
    }

    private static void setGroup() {
        TimetableBuilder x = Check.with("0:0,1", "1:2", "2:0");
        x.place(0, 0);
        x.place(1, 1);
        x.place(2, 6);
        x.fix(2, true);
        Check.due("just fits", 0, () -> x.setGroup(0, 20));
        Check.due("the size of the event", 30, () -> x.event(0, 4));
        Check.due("one too large", 1, () -> x.setGroup(0, 21));
        Check.same("only the one", "-1 1 6", Check.places(x));
        Check.due("the fixed one too", 1, () -> x.setGroup(0, 40));
        Check.due("not fixed any more", 0, () -> x.count(2));
        Check.due("an empty group", 0, () -> x.setGroup(5, 0));
        Check.due("its size", 0, () -> x.setting(2, 5));
        Check.fails("group -1", Check.INDEX, () -> x.setGroup(-1, -1));
        Check.fails("group 6", Check.INDEX, () -> x.setGroup(6, 41));
        Check.fails("size -1", Check.ARGUMENT, () -> x.setGroup(0, -1));
        Check.fails("size 41", Check.ARGUMENT, () -> x.setGroup(0, 41));
        Check.due("nothing set by failures", 40, () -> x.setting(2, 0));
    }

    private static void setTeacher() {
        TimetableBuilder x = Check.with("0:0*2", "0:1", "1:2");
        x.place(0, 0);
        x.place(1, 13);
        x.place(2, 2);
        x.fix(0, true);
        Check.due("available in all it needs", 0, () -> x.setTeacher(0, 7));
        Check.due("the second slot is needed too", 1, () -> x.setTeacher(0, 5));
        Check.same("only the long one", "-1 13 2", Check.places(x));
        Check.due("not fixed any more", 0, () -> x.count(2));
        Check.due("no slot at all", 1, () -> x.setTeacher(0, 0));
        Check.due("another teacher", 0, () -> x.setTeacher(5, 1023));
        Check.fails("teacher -1", Check.INDEX, () -> x.setTeacher(-1, -1));
        Check.fails("teacher 6", Check.INDEX, () -> x.setTeacher(6, 1024));
        Check.fails("slot 10", Check.ARGUMENT, () -> x.setTeacher(0, 1024));
        Check.fails("slot 31", Check.ARGUMENT, () -> x.setTeacher(0, Integer.MIN_VALUE));
        Check.due("nothing set by failures", 0, () -> x.setting(3, 0));
    }

    private static void setWeight() {
        TimetableBuilder x = new TimetableBuilder();
        Check.due("the first weight", 1, () -> x.setWeight(0, 9));
        Check.due("again", 9, () -> x.setWeight(0, 0));
        Check.due("the others are their own", 1, () -> x.setWeight(2, 3));
        Check.due("and stay so", 1, () -> x.setWeight(1, 2));
        Check.fails("what -1", Check.INDEX, () -> x.setWeight(-1, -1));
        Check.fails("what 3", Check.INDEX, () -> x.setWeight(3, 10));
        Check.fails("weight -1", Check.ARGUMENT, () -> x.setWeight(0, -1));
        Check.fails("weight 10", Check.ARGUMENT, () -> x.setWeight(0, 10));
        Check.due("nothing set by failures", 0, () -> x.setWeight(0, 1));
    }

    private static void setting() {
        TimetableBuilder x = new TimetableBuilder();
        x.setRoom(2, 41, 9);
        x.setGroup(3, 7);
        x.setTeacher(4, 513);
        Check.due("capacity", 41, () -> x.setting(0, 2));
        Check.due("features", 9, () -> x.setting(1, 2));
        Check.due("size", 7, () -> x.setting(2, 3));
        Check.due("slots", 513, () -> x.setting(3, 4));
        Check.fails("what -1", Check.ARGUMENT, () -> x.setting(-1, 0));
        Check.fails("what 4, before the index", Check.ARGUMENT, () -> x.setting(4, -1));
        for (int what = 0; what <= 3; what++) {
            int k = what;
            Check.fails("index -1", Check.INDEX, () -> x.setting(k, -1));
            Check.fails("index 6", Check.INDEX, () -> x.setting(k, 6));
        }
        Check.due("asking is no change", 3, () -> x.count(4));
    }
}
