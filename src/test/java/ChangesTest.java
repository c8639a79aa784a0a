/** Promises 33 to 36: count, undo, save, restore. */
final class ChangesTest {
    public static void main(String[] args) {
        count();
        undoOfEach();
        sixAtMost();
        noChanges();
        saveAndRestore();
        Check.end();
    }

    private static void count() {
        TimetableBuilder x = Check.with("0:0", "1:1", "2:2");
        x.place(0, 0);
        x.place(1, 1);
        x.fix(1, true);
        Check.type(x, "0:0,1");
        Check.due("events", 3, () -> x.count(0));
        Check.due("placed", 2, () -> x.count(1));
        Check.due("fixed", 1, () -> x.count(2));
        Check.due("characters", 5, () -> x.count(3));
        Check.due("changes", 6, () -> x.count(4));
        Check.fails("what 5", Check.ARGUMENT, () -> x.count(5));
        Check.fails("what -1", Check.ARGUMENT, () -> x.count(-1));
    }

    /** All that can be asked for, in one text. */
    private static String dump(TimetableBuilder x) {
        StringBuilder text = new StringBuilder();
        for (int what = 0; what <= 3; what++) {
            for (int index = 0; index < 6; index++) {
                text.append(x.setting(what, index)).append(' ');
            }
        }
        for (int event = 0; event < x.count(0); event++) {
            text.append('|').append(Check.describe(x, event)).append(' ').append(x.event(event, 5));
            text.append(' ').append(x.event(event, 6)).append(' ').append(x.marked(event));
        }
        return text.append(" cost ").append(x.cost(4)).append(' ').append(x.changed()).toString();
    }

    private static void undoOfEach() {
        takenBack("setRoom", start(), x -> x.setRoom(0, 1, 1));
        takenBack("setGroup", start(), x -> x.setGroup(0, 40));
        takenBack("setTeacher", start(), x -> x.setTeacher(0, 0));
        takenBack("setWeight", start(), x -> x.setWeight(1, 5));
        takenBack("addEvent", start(), x -> Check.add(x, "5:5"));
        takenBack("removeEvent", start(), x -> x.removeEvent(0));
        takenBack("split", start(), x -> x.split(0, 2));
        takenBack("place", start(), x -> x.place(0, 0));
        takenBack("unplace", start(), x -> x.unplace(0));
        takenBack("fix", start(), x -> x.fix(0, true) ? 1 : 0);
        takenBack("insert", start(), x -> x.insert(3));
        takenBack("build", start(), TimetableBuilder::build);
        takenBack("exchange", start(), x -> x.exchange(0, 1));
        takenBack("improve", start(), x -> x.improve(3));
        takenBack("mark", start(), TimetableBuilder::mark);
        TimetableBuilder saved = start();
        saved.save();
        saved.place(0, 0);
        takenBack("restore", saved, TimetableBuilder::restore);
    }

    private static TimetableBuilder start() {
        TimetableBuilder x = Check.with("0:0,1", "1:1", "2:2", "3:3*2", "4:4/7*2");
        x.place(0, 24);
        x.place(1, 6);
        return x;
    }

    private static void takenBack(String what, TimetableBuilder x, Refusals.Act act) {
        String before = dump(x);
        act.on(x);
        Check.due(what + " is a difference here", false, before.equals(dump(x)));
        Check.due(what + " is a change", 5, x::undo);
        Check.same(what + " taken back", before, dump(x));
    }

    private static void sixAtMost() {
        TimetableBuilder x = new TimetableBuilder();
        for (int size = 11; size <= 18; size++) {
            x.setGroup(0, size);
        }
        Check.due("six changes are kept", 6, () -> x.count(4));
        for (int left = 5; left >= 0; left--) {
            int k = left;
            Check.due("undo", k, x::undo);
            Check.due("the size then", 12 + k, () -> x.setting(2, 0));
        }
        Check.fails("older ones are forgotten", Check.STATE, x::undo);
        Check.due("the size stays", 12, () -> x.setting(2, 0));
        x.setGroup(0, 1);
        x.setGroup(0, 2);
        x.undo();
        x.setGroup(0, 3);
        Check.due("two after an undo", 2, () -> x.count(4));
        x.undo();
        Check.due("the latest first", 1, () -> x.setting(2, 0));
        Check.due("then the first", 0, x::undo);
        Check.due("all back", 12, () -> x.setting(2, 0));
        x.setGroup(0, 12);
        Check.due("a change also if nothing is different", 1, () -> x.count(4));
    }

    private static void noChanges() {
        TimetableBuilder x = Check.with("0:0");
        x.append(0x30);
        x.save();
        x.errorPosition();
        x.event(0, 0);
        x.describe(0, -1);
        x.obstacle(0, 0);
        x.places(0, 0);
        x.free(0, 0);
        x.hindering(0, 0);
        x.taken(0, 0);
        x.cost(4);
        x.costAt(0, 0);
        x.changed();
        x.marked(0);
        x.count(0);
        x.setting(0, 0);
        Check.fails("a failing call", Check.STATE, () -> x.unplace(0));
        Check.due("only the event was a change", 1, () -> x.count(4));
        Check.due("undo takes it back", 0, x::undo);
        Check.due("no event", 0, () -> x.count(0));
        Check.due("the buffer is no part of it", 1, () -> x.count(3));
    }

    private static void saveAndRestore() {
        TimetableBuilder x = Check.with("0:0,1", "1:1");
        Check.fails("nothing saved", Check.STATE, x::restore);
        x.setWeight(2, 4);
        x.setTeacher(3, 77);
        x.place(0, 7);
        x.mark();
        x.fix(0, true);
        String then = dump(x);
        Check.due("two events", 2, x::save);
        x.removeEvent(0);
        x.setRoom(3, 1, 2);
        x.setWeight(2, 0);
        x.build();
        x.mark();
        Check.fails("an error", Check.ARGUMENT, () -> Check.add(x, "0:x"));
        Check.type(x, "0:0");
        String now = dump(x);
        Check.due("restored", 2, x::restore);
        Check.same("all of it", then, dump(x));
        Check.due("not the buffer", 3, () -> x.count(3));
        Check.due("not the error position", 2, x::errorPosition);
        Check.due("restore is a change", 6, () -> x.count(4));
        x.undo();
        Check.same("taken back", now, dump(x));
        Check.due("it stays saved", 2, x::restore);
        Check.same("again all of it", then, dump(x));
        x.unplace(0);
        Check.due("still", 2, x::restore);
        Check.same("a third time", then, dump(x));
        x.removeEvent(1);
        Check.due("saved anew", 1, x::save);
        x.undo();
        Check.due("the new one", 1, x::restore);
        x.undo();
        x.undo();
        Check.due("undo does not touch what is saved", 1, x::restore);
    }
}
