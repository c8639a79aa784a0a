import java.util.List;

/**
 * The boundary cases of promises 1 to 6, and of "Slots and rooms" and "Groups and teachers" in the description.
 * A comment before a test is the sentence that it tests.
 */
final class SettingBoundsTest {
    private static final Refusals SCENE = new Refusals(Scene::rich);

    public static void main(String[] args) {
        withoutEvents();
        firstSettings();
        firstWeights();
        objectsAreApart();
        setRoomLimits();
        setRoomRefuses();
        setRoomAtTheSize();
        setRoomAtTheFeatures();
        setRoomCounts();
        setGroupLimits();
        setGroupRefuses();
        setGroupAtTheCapacity();
        setGroupCounts();
        setTeacherLimits();
        setTeacherRefuses();
        setTeacherSlotBySlot();
        setTeacherOfLongEvents();
        setTeacherCounts();
        unsuitableAlone();
        setWeightLimits();
        setWeightRefuses();
        eachWeightForItsPart();
        settingLimits();
        Check.end();
    }

    // "Creates a builder without events; all weights are 1."

    private static void withoutEvents() {
        TimetableBuilder x = new TimetableBuilder();
        for (int event = 0; event < 14; event++) {
            int e = event;
            Check.fails("P1 no event " + e, Check.INDEX, () -> x.event(e, 0));
        }
        for (int what = 0; what <= 4; what++) {
            int k = what;
            Check.due("P1 count " + k, 0, () -> x.count(k));
            Check.due("P1 cost " + k, 0, () -> x.cost(k));
        }
        for (int place = 0; place < 60; place++) {
            int k = place;
            Check.fails("P1 nothing at " + k, Check.NO_ELEMENT, () -> x.at(k / 6, k % 6));
        }
        for (int index = 0; index < 18; index++) {
            int k = index;
            Check.due("P1 nothing taken", 0, () -> x.taken(k / 6, k % 6));
        }
        Check.due("P1 no error", -1, x::errorPosition);
        Check.due("P1 nothing changed", 0, x::changed);
        Check.fails("P1 nothing to take back", Check.STATE, x::undo);
        Check.fails("P1 nothing saved", Check.STATE, x::restore);
        Check.fails("P1 an empty buffer", Check.ARGUMENT, x::addEvent);
        Check.due("P1 nothing to build", 0, x::build);
        Check.due("P1 nothing to improve", 0, () -> x.improve(5));
        Check.due("P1 nothing to mark", 0, x::mark);
        Check.due("P1 nothing to save", 0, x::save);
    }

    // "a capacity from 0 to 99, 30 at first, and a set of features, ... 0 at first", "sizes from 0 to 40, 10 at
    // first", "a set of slots in which it is available, all of them at first"

    private static void firstSettings() {
        TimetableBuilder x = Check.with("0:0,1,2", "1:0/1", "2:5*2");
        int[] first = {30, 0, 10, 1023};
        for (int k = 0; k < 24; k++) {
            int what = k / 6;
            int index = k % 6;
            Check.due("P1 setting " + what + ", " + index, first[what], () -> x.setting(what, index));
        }
        Check.due("P1 a size of 30 fits everywhere", 60, () -> x.places(0, 0));
        Check.due("P1 no room has a feature", 60, () -> x.places(1, 4));
        Check.due("P1 all slots but the last of each day", 48, () -> x.places(2, 0));
        x.setGroup(0, 11);
        Check.due("P1 a size of 31 fits nowhere", 60, () -> x.places(0, 3));
    }

    private static void firstWeights() {
        for (int what = 0; what <= 2; what++) {
            int k = what;
            Check.due("P1 weight " + k, 1, () -> new TimetableBuilder().setWeight(k, 0));
        }
        TimetableBuilder x = Check.with("0:0", "1:0");
        x.place(0, 0);
        x.place(1, 24);
        Check.due("P1 three gaps, one late, a slack of four, each once", 8, () -> x.cost(4));
    }

    private static void objectsAreApart() {
        Look.same("P1 another object leaves no trace", Look.at(TimetableBuilder::new), Look.at(() -> {
            TimetableBuilder x = new TimetableBuilder();
            Scene.rich().restore();
            return x;
        }));
        Look.same("P1 nor in what was saved or can be taken back", Look.at(Scene::rich), Look.at(() -> {
            TimetableBuilder x = Scene.rich();
            TimetableBuilder other = Scene.full();
            other.save();
            other.build();
            other.undo();
            return x;
        }));
    }

    // "Sets the capacity and the features of a room.", "capacity, 0 to 99", "features, 0 to 15"

    private static void setRoomLimits() {
        for (int room = 0; room < 6; room++) {
            int k = room;
            TimetableBuilder x = new TimetableBuilder();
            Check.due("P2 the greatest", 0, () -> x.setRoom(k, 99, 15));
            Check.due("P2 capacity 99", 99, () -> x.setting(0, k));
            Check.due("P2 features 15", 15, () -> x.setting(1, k));
            Check.due("P2 the greatest capacity alone", 0, () -> x.setRoom(k, 99, 0));
            Check.due("P2 features 0", 0, () -> x.setting(1, k));
            Check.due("P2 the least capacity alone", 0, () -> x.setRoom(k, 0, 15));
            Check.due("P2 capacity 0", 0, () -> x.setting(0, k));
            Check.due("P2 features 15 again", 15, () -> x.setting(1, k));
            Check.due("P2 between", 0, () -> x.setRoom(k, 98, 14));
            Check.due("P2 capacity 98", 98, () -> x.setting(0, k));
            Check.due("P2 features 14", 14, () -> x.setting(1, k));
            for (int other = 0; other < 6; other++) {
                int o = other;
                Check.due("P2 of room " + o, o == k ? 98 : 30, () -> x.setting(0, o));
                Check.due("P2 of room " + o, o == k ? 14 : 0, () -> x.setting(1, o));
            }
        }
    }

    private static void setRoomRefuses() {
        for (int room : Check.outside(6)) {
            SCENE.index("P2 room " + room, x -> x.setRoom(room, 50, 1));
            SCENE.index("P2 the room comes before the capacity", x -> x.setRoom(room, 100, 1));
            SCENE.index("P2 the room comes before the features", x -> x.setRoom(room, 50, 16));
        }
        for (int capacity : Check.outside(100)) {
            SCENE.argument("P2 capacity " + capacity, x -> x.setRoom(1, capacity, 1));
        }
        for (int features : Check.outside(16)) {
            SCENE.argument("P2 features " + features, x -> x.setRoom(1, 50, features));
        }
    }

    // "Events whose places are not suitable then become unplaced and are not fixed any more."

    private static void setRoomAtTheSize() {
        TimetableBuilder x = Check.with("0:0,1", "1:2", "2:3,4,5");
        x.place(0, 14);
        x.place(1, 3);
        x.fix(0, true);
        x.fix(1, true);
        Check.due("P2 one above the size", 0, () -> x.setRoom(2, 21, 0));
        Check.due("P2 the size", 0, () -> x.setRoom(2, 20, 0));
        Check.due("P2 still placed", 14, () -> x.event(0, 5));
        Check.due("P2 still fixed", 1, () -> x.event(0, 6));
        Check.due("P2 one below the size, and one that was not placed", 1, () -> x.setRoom(2, 19, 0));
        Check.same("P2 another room keeps its event", "-1 3 -1", Check.places(x));
        Check.due("P2 not fixed any more", 0, () -> x.event(0, 6));
        Check.due("P2 the other one is", 1, () -> x.event(1, 6));
        Check.due("P2 nothing left in the room", 0, () -> x.setRoom(2, 0, 0));
        Check.due("P2 the room as it was", 0, () -> x.setRoom(2, 30, 0));
        Check.due("P2 does not bring the event back", -1, () -> x.event(0, 5));
    }

    private static void setRoomAtTheFeatures() {
        for (int features = 0; features <= 15; features++) {
            int k = features;
            TimetableBuilder x = new TimetableBuilder();
            x.setRoom(0, 30, 15);
            Check.add(x, "0:0/5");
            x.place(0, 0);
            x.fix(0, true);
            boolean stays = k == 5 || k == 7 || k == 13 || k == 15;
            Check.due("P2 needs 5, the room has " + k, stays ? 0 : 1, () -> x.setRoom(0, 30, k));
            Check.due("P2 its place", stays ? 0 : -1, () -> x.event(0, 5));
            Check.due("P2 fixed", stays ? 1 : 0, () -> x.event(0, 6));
        }
    }

    // "Returns the number of events that became unplaced."

    private static void setRoomCounts() {
        TimetableBuilder x = Check.with("0:0", "1:0", "2:0", "3:0", "4:0", "5:0,1", "0:1", "0:2", "0:3,4", "0:4", "2:5*2");
        for (int slot = 0; slot < 10; slot++) {
            x.place(slot, 6 * slot + 5);
        }
        x.place(10, 0);
        Check.due("P2 two of ten are larger", 2, () -> x.setRoom(5, 10, 0));
        Check.same("P2 those two", "5 11 17 23 29 -1 41 47 -1 59 0", Check.places(x));
        Check.due("P2 a long one counts once", 1, () -> x.setRoom(0, 9, 0));
        Check.due("P2 all others", 8, () -> x.setRoom(5, 9, 15));
        Check.due("P2 none is placed", 0, () -> x.count(1));
    }

    // "Sets the size of a group.", "size, 0 to 40"

    private static void setGroupLimits() {
        for (int group = 0; group < 6; group++) {
            int k = group;
            TimetableBuilder x = Check.with("0:" + k);
            for (int size : new int[] {40, 39, 1, 0}) {
                Check.due("P3 size " + size, 0, () -> x.setGroup(k, size));
                Check.due("P3 it is set", size, () -> x.setting(2, k));
                Check.due("P3 and is the size of the event", size, () -> x.event(0, 4));
            }
            for (int other = 0; other < 6; other++) {
                int o = other;
                Check.due("P3 of group " + o, o == k ? 0 : 10, () -> x.setting(2, o));
            }
        }
    }

    private static void setGroupRefuses() {
        for (int group : Check.outside(6)) {
            SCENE.index("P3 group " + group, x -> x.setGroup(group, 7));
            SCENE.index("P3 the group comes before the size", x -> x.setGroup(group, 41));
        }
        for (int size : Check.outside(41)) {
            SCENE.argument("P3 size " + size, x -> x.setGroup(0, size));
        }
    }

    // "Events whose places are not suitable then become unplaced and are not fixed any more."

    private static void setGroupAtTheCapacity() {
        TimetableBuilder x = Check.with("0:0,1", "1:2", "2:0,3");
        x.place(0, 0);
        x.place(1, 1);
        x.fix(0, true);
        x.fix(1, true);
        Check.due("P3 one below the capacity", 0, () -> x.setGroup(0, 19));
        Check.due("P3 the capacity", 0, () -> x.setGroup(0, 20));
        Check.same("P3 still placed", "0 1 -1", Check.places(x));
        Check.due("P3 still fixed", 1, () -> x.event(0, 6));
        Check.due("P3 one above the capacity, and one that was not placed", 1, () -> x.setGroup(0, 21));
        Check.same("P3 another group keeps its event", "-1 1 -1", Check.places(x));
        Check.due("P3 not fixed any more", 0, () -> x.event(0, 6));
        Check.due("P3 the other one is", 1, () -> x.event(1, 6));
        TimetableBuilder y = Check.with("0:0");
        y.setGroup(0, 0);
        y.setRoom(3, 0, 0);
        Check.due("P3 a size of 0 fits into a capacity of 0", -1, () -> y.place(0, 3));
        Check.due("P3 a size of 1 does not", 1, () -> y.setGroup(0, 1));
        y.setRoom(3, 40, 0);
        y.place(0, 3);
        Check.due("P3 a smaller one stays", 0, () -> y.setGroup(0, 0));
        Check.due("P3 40 in a room for 40", 0, () -> y.setGroup(0, 40));
    }

    private static void setGroupCounts() {
        TimetableBuilder x = Check.with("0:0", "1:0", "2:0,1", "3:1,2", "4:3");
        x.place(0, 0);
        x.place(1, 6);
        x.place(2, 12);
        x.place(3, 0 + 1);
        Check.due("P3 those that have two groups", 1, () -> x.setGroup(0, 30));
        Check.same("P3 only the large one", "0 6 -1 1 -1", Check.places(x));
        Check.due("P3 all with the group", 2, () -> x.setGroup(0, 31));
        Check.same("P3 the others stay", "-1 -1 -1 1 -1", Check.places(x));
    }

    // "Sets in which slots a teacher is available.", "bit s for slot s"

    private static void setTeacherLimits() {
        for (int teacher = 0; teacher < 6; teacher++) {
            int k = teacher;
            TimetableBuilder x = new TimetableBuilder();
            for (int slots : new int[] {0, 1, 512, 1022, 1023, 511}) {
                Check.due("P4 slots " + slots, 0, () -> x.setTeacher(k, slots));
                Check.due("P4 they are set", slots, () -> x.setting(3, k));
            }
            for (int other = 0; other < 6; other++) {
                int o = other;
                Check.due("P4 of teacher " + o, o == k ? 511 : 1023, () -> x.setting(3, o));
            }
        }
    }

    private static void setTeacherRefuses() {
        for (int teacher : Check.outside(6)) {
            SCENE.index("P4 teacher " + teacher, x -> x.setTeacher(teacher, 3));
            SCENE.index("P4 the teacher comes before the slots", x -> x.setTeacher(teacher, 1024));
        }
        for (int bit = 10; bit < 32; bit++) {
            int slots = 1 << bit;
            SCENE.argument("P4 bit " + bit, x -> x.setTeacher(0, slots));
        }
        SCENE.argument("P4 one slot more than all", x -> x.setTeacher(0, 2047));
        SCENE.argument("P4 bit 10 beside others", x -> x.setTeacher(0, 1024 + 5));
        SCENE.argument("P4 all bits", x -> x.setTeacher(0, -1));
        SCENE.argument("P4 all bits but one", x -> x.setTeacher(0, Integer.MAX_VALUE));
    }

    // "Events whose places are not suitable then become unplaced and are not fixed any more."

    private static void setTeacherSlotBySlot() {
        for (int slot = 0; slot < 10; slot++) {
            int s = slot;
            TimetableBuilder x = Check.with("0:0");
            x.place(0, 6 * s + 2);
            x.fix(0, true);
            Check.due("P4 the slot alone is enough", 0, () -> x.setTeacher(0, 1 << s));
            Check.due("P4 still fixed", 1, () -> x.event(0, 6));
            Check.due("P4 all slots but this one", 1, () -> x.setTeacher(0, 1023 & ~(1 << s)));
            Check.due("P4 unplaced", -1, () -> x.event(0, 5));
            Check.due("P4 not fixed any more", 0, () -> x.event(0, 6));
            Check.due("P4 only the rooms of this slot are out", 6, () -> x.places(0, 2));
            Check.due("P4 these", 2, () -> x.obstacle(0, 6 * s + 5));
        }
    }

    private static void setTeacherOfLongEvents() {
        for (int slot : new int[] {0, 3, 5, 8}) {
            int s = slot;
            TimetableBuilder x = Check.with("0:0*2");
            x.place(0, 6 * s);
            Check.due("P4 both slots", 0, () -> x.setTeacher(0, 3 << s));
            Check.due("P4 the first alone", 1, () -> x.setTeacher(0, 1 << s));
            x.setTeacher(0, 1023);
            x.place(0, 6 * s);
            Check.due("P4 the second alone", 1, () -> x.setTeacher(0, 2 << s));
        }
    }

    private static void setTeacherCounts() {
        TimetableBuilder x = Check.with("0:0", "0:1", "0:2*2", "1:3", "0:4");
        x.place(0, 0);
        x.place(1, 6);
        x.place(2, 12);
        x.place(3, 1);
        Check.due("P4 of three, one has this slot", 1, () -> x.setTeacher(0, 1023 & ~2));
        Check.same("P4 that one", "0 -1 12 1 -1", Check.places(x));
        Check.due("P4 no slot at all", 2, () -> x.setTeacher(0, 0));
        Check.same("P4 another teacher keeps the event", "-1 -1 -1 1 -1", Check.places(x));
    }

    // "A place is suitable for an event if its obstacle is not from 1 to 4."

    private static void unsuitableAlone() {
        TimetableBuilder x = Check.with("0:0", "1:1", "0:1");
        x.place(0, 0);
        x.place(1, 1);
        x.place(2, 6);
        Check.due("P2 neighbours are no matter", 0, () -> x.setRoom(0, 30, 0));
        Check.due("P3 nor here", 0, () -> x.setGroup(1, 10));
        Check.due("P4 nor here", 0, () -> x.setTeacher(0, 1023));
        Check.same("P4 all stay", "0 1 6", Check.places(x));
    }

    // "what: 0 for gaps, 1 for late ones, 2 for slack", "weight, 0 to 9", "Returns the previous weight."

    private static void setWeightLimits() {
        for (int what = 0; what <= 2; what++) {
            int k = what;
            TimetableBuilder x = new TimetableBuilder();
            Check.due("P5 the first one", 1, () -> x.setWeight(k, 0));
            Check.due("P5 the least", 0, () -> x.setWeight(k, 9));
            Check.due("P5 the greatest", 9, () -> x.setWeight(k, 8));
            Check.due("P5 between", 8, () -> x.setWeight(k, 8));
            for (int other = 0; other <= 2; other++) {
                int o = other;
                Check.due("P5 weight " + o, o == k ? 8 : 1, () -> x.setWeight(o, 3));
            }
        }
    }

    private static void setWeightRefuses() {
        for (int what : Check.outside(3)) {
            SCENE.index("P5 what " + what, x -> x.setWeight(what, 7));
            SCENE.index("P5 what comes before the weight", x -> x.setWeight(what, 10));
        }
        for (int weight : Check.outside(10)) {
            SCENE.argument("P5 weight " + weight, x -> x.setWeight(0, weight));
        }
    }

    private static void eachWeightForItsPart() {
        int[] parts = {3, 2, 4};
        for (int what = 0; what <= 2; what++) {
            int k = what;
            TimetableBuilder x = Check.with("0:0", "1:0", "2:1");
            x.setRoom(0, 20, 0);
            x.place(0, 0);
            x.place(1, 24);
            x.place(2, 59);
            for (int other = 0; other <= 2; other++) {
                x.setWeight(other, 0);
            }
            Check.due("P5 no weight, no cost", 0, () -> x.cost(4));
            x.setWeight(k, 9);
            Check.due("P5 weight " + k + " alone", 9 * parts[k], () -> x.cost(4));
        }
    }

    // "Throws IllegalArgumentException if what is not from 0 to 3", "IndexOutOfBoundsException if there is no such"

    private static void settingLimits() {
        for (int what : Check.outside(4)) {
            SCENE.argument("P6 what " + what, x -> x.setting(what, 0));
            SCENE.argument("P6 what comes before the index", x -> x.setting(what, 6));
        }
        for (int index : Check.outside(6)) {
            for (int what = 0; what <= 3; what++) {
                int k = what;
                SCENE.index("P6 index " + index + " of " + k, x -> x.setting(k, index));
            }
        }
        List<int[]> due = List.of(new int[] {30, 40, 25, 30, 0, 99}, new int[] {0, 5, 2, 0, 0, 15},
            new int[] {10, 10, 10, 10, 0, 40}, new int[] {1023, 1023, 1023, 1023, 1023, 0});
        for (int k = 0; k < 24; k++) {
            int what = k / 6;
            int index = k % 6;
            SCENE.asks("P6 setting " + what + ", " + index, due.get(what)[index], x -> x.setting(what, index));
        }
    }
}
