import java.util.ArrayList;
import java.util.LinkedHashMap;
import java.util.List;
import java.util.Map;

/**
 * The boundary cases of promises 33 to 36, of "Changes" and "More exactly" in the description, and of the number of
 * calls. A comment before a test is the sentence that it tests.
 */
final class ChangeBoundsTest {
    private static final Refusals SCENE = new Refusals(Scene::rich);
    private static final Refusals FULL = new Refusals(Scene::full);

    public static void main(String[] args) {
        countRefuses();
        countLimits();
        eachChange();
        eachChangeOfNothing();
        eachOtherCall();
        refusedCalls();
        sixChanges();
        olderOnesAreForgotten();
        oneOlderThanSix();
        undoneOnesAreGone();
        changesAfterUndo();
        undoRefuses();
        undoAndTheBuffer();
        saveAnswers();
        saveReplaces();
        saveIsNoChange();
        whatIsNotSaved();
        whatIsSaved();
        savedIsApart();
        staysSaved();
        restoreRefuses();
        restoreIsAChange();
        the512thCall();
        Check.end();
    }

    /** Five changes can be taken back here, so that one more is seen. */
    private static TimetableBuilder five() {
        TimetableBuilder x = Scene.rich();
        x.undo();
        return x;
    }

    // "Throws IllegalArgumentException if what is not from 0 to 4"

    private static void countRefuses() {
        for (int what : Check.outside(5)) {
            SCENE.argument("P33 what " + what, x -> x.count(what));
        }
        int[] due = {9, 4, 2, 9, 6};
        for (int what = 0; what <= 4; what++) {
            int k = what;
            SCENE.asks("P33 count " + k, due[k], x -> x.count(k));
        }
    }

    // "what: 0 for events, 1 for placed events, 2 for fixed events, 3 for characters in the buffer, 4 for changes"

    private static void countLimits() {
        TimetableBuilder x = new TimetableBuilder();
        for (int event = 0; event < 14; event++) {
            int e = event;
            Check.add(x, event % 6 + ":" + event % 6);
            Check.due("P33 events", e + 1, () -> x.count(0));
            Check.due("P33 placed ones", e, () -> x.count(1));
            x.place(e, 6 * (e / 6) + e % 6);
            Check.due("P33 fixed ones", e, () -> x.count(2));
            x.fix(e, true);
        }
        int[] due = {14, 14, 14, 0, 6};
        for (int what = 0; what <= 4; what++) {
            int k = what;
            Check.due("P33 the greatest count " + k, due[k], () -> x.count(k));
        }
        for (int used = 1; used <= 40; used++) {
            int u = used;
            x.append('0');
            Check.due("P33 characters", u, () -> x.count(3));
        }
        x.unplace(3);
        Check.due("P33 one placed less", 13, () -> x.count(1));
        Check.due("P33 one fixed less", 13, () -> x.count(2));
        Check.due("P33 not one event less", 14, () -> x.count(0));
    }

    // "The changes are the calls without an exception of setRoom, setGroup, ..., mark and restore."

    private static void eachChange() {
        Map<String, Refusals.Act> acts = new LinkedHashMap<>();
        acts.put("setRoom", x -> x.setRoom(0, 10, 3));
        acts.put("setGroup", x -> x.setGroup(0, 40));
        acts.put("setTeacher", x -> x.setTeacher(0, 2));
        acts.put("setWeight", x -> x.setWeight(2, 6));
        acts.put("addEvent", TimetableBuilder::addEvent);
        acts.put("removeEvent", x -> x.removeEvent(1));
        acts.put("split", x -> x.split(3, 4));
        acts.put("place", x -> x.place(3, 55));
        acts.put("unplace", x -> x.unplace(2));
        acts.put("fix", x -> x.fix(0, false) ? 1 : 0);
        acts.put("insert", x -> x.insert(8));
        acts.put("build", TimetableBuilder::build);
        acts.put("exchange", x -> x.exchange(3, 9));
        acts.put("improve", x -> x.improve(5));
        acts.put("mark", TimetableBuilder::mark);
        acts.put("restore", TimetableBuilder::restore);
        List<String> before = Look.atTable(ChangeBoundsTest::five);
        for (Map.Entry<String, Refusals.Act> one : acts.entrySet()) {
            TimetableBuilder x = five();
            Check.due("P33 changes before " + one.getKey(), 5, () -> x.count(4));
            String answer = Check.answer(() -> one.getValue().on(x));
            Check.due(one.getKey() + " answers", false, answer.endsWith("Exception"));
            Check.due("P33 changes after " + one.getKey(), 6, () -> x.count(4));
            noObstacles(one.getKey(), x);
            Check.due("P34 undo of " + one.getKey(), 5, x::undo);
            boolean differs = !Look.difference(before, Look.atTable(() -> after(five(), one.getValue()))).isEmpty();
            Check.due(one.getKey() + " makes a difference here", true, differs);
            Look.same("P34 " + one.getKey() + " taken back", before, Look.atTable(() -> {
                TimetableBuilder y = after(five(), one.getValue());
                y.undo();
                return y;
            }));
        }
    }

    // "No placed event has a place with an obstacle"

    private static void noObstacles(String what, TimetableBuilder x) {
        for (int event = 0; event < x.count(0); event++) {
            int e = event;
            int place = x.event(e, 5);
            if (place != -1) {
                Check.due("P17 an obstacle after " + what, 0, () -> x.obstacle(e, place));
            }
        }
    }

    private static TimetableBuilder after(TimetableBuilder x, Refusals.Act act) {
        Check.answer(() -> act.on(x));
        return x;
    }

    // "A call named under Changes that throws no exception is a change also if nothing is different then."

    private static void eachChangeOfNothing() {
        Map<String, Refusals.Act> acts = new LinkedHashMap<>();
        acts.put("setRoom", x -> x.setRoom(0, x.setting(0, 0), x.setting(1, 0)));
        acts.put("setGroup", x -> x.setGroup(0, x.setting(2, 0)));
        acts.put("setTeacher", x -> x.setTeacher(0, x.setting(3, 0)));
        acts.put("setWeight", x -> x.setWeight(0, 2));
        acts.put("place", x -> x.place(1, x.event(1, 5)));
        acts.put("fix", x -> x.fix(1, false) ? 1 : 0);
        acts.put("build", TimetableBuilder::build);
        acts.put("improve", x -> x.improve(1));
        acts.put("mark", TimetableBuilder::mark);
        acts.put("restore", TimetableBuilder::restore);
        for (Map.Entry<String, Refusals.Act> one : acts.entrySet()) {
            TimetableBuilder x = settled();
            String then = places(x);
            Check.answer(() -> one.getValue().on(x));
            Check.same("nothing is different after " + one.getKey(), then, places(x));
            Check.due("P33 " + one.getKey() + " of nothing is a change", 5, () -> x.count(4));
            Check.due("P34 and taken back", 4, x::undo);
            Check.same("P34 with nothing different", then, places(x));
        }
    }

    /** Marked, saved, as good as it can be, one event that can nowhere be inserted, and four changes. */
    private static TimetableBuilder settled() {
        TimetableBuilder x = Check.with("0:0", "1:1", "5:3");
        x.setTeacher(5, 0);
        x.place(0, 0);
        x.place(1, 1);
        x.fix(0, true);
        x.mark();
        for (int times = 0; times < 3; times++) {
            x.setWeight(0, 2);
        }
        x.save();
        x.undo();
        x.undo();
        return x;
    }

    private static String places(TimetableBuilder x) {
        StringBuilder text = new StringBuilder(Check.places(x)).append(" fixed ").append(x.count(2));
        for (int index = 0; index < 24; index++) {
            text.append(' ').append(x.setting(index / 6, index % 6));
        }
        for (int event = 0; event < x.count(0); event++) {
            text.append(' ').append(x.marked(event));
        }
        return text.append(" cost ").append(x.cost(4)).toString();
    }

    private static void eachOtherCall() {
        SCENE.asks("P6 setting", 30, x -> x.setting(0, 0));
        SCENE.asks("P9 errorPosition", 4, TimetableBuilder::errorPosition);
        SCENE.asks("P12 event", 1, x -> x.event(1, 0));
        SCENE.asks("P13 describe", 3, x -> x.describe(0, -1));
        SCENE.asks("P17 obstacle", 5, x -> x.obstacle(1, 6));
        SCENE.asks("P18 places", 60, x -> x.places(5, 2));
        SCENE.asks("P19 free", 1, x -> x.free(4, 0));
        SCENE.asks("P20 hindering", 1, x -> x.hindering(3, 6));
        SCENE.asks("P21 at", 0, x -> x.at(1, 0));
        SCENE.asks("P22 taken", 2 + 16, x -> x.taken(0, 0));
        SCENE.asks("P26 chain", 4 + 8, x -> x.chain(3, 2));
        SCENE.asks("P28 cost", 5, x -> x.cost(3));
        SCENE.asks("P29 costAt", 576, x -> x.costAt(3, 24));
        SCENE.asks("P31 changed", 8 + 128, TimetableBuilder::changed);
        SCENE.asks("P32 marked", 18, x -> x.marked(3));
        SCENE.asks("P33 count", 6, x -> x.count(4));
        SCENE.asks("P7 append of nothing", 9, x -> x.append(0));
        TimetableBuilder x = five();
        x.append('0');
        x.save();
        Check.due("P33 neither append nor save is a change", 5, () -> x.count(4));
    }

    // "The changes are the calls without an exception"

    private static void refusedCalls() {
        Refusals there = new Refusals(ChangeBoundsTest::five);
        there.index("P2 setRoom", x -> x.setRoom(6, 0, 0));
        there.argument("P3 setGroup", x -> x.setGroup(0, 41));
        there.argument("P4 setTeacher", x -> x.setTeacher(0, 1024));
        there.argument("P5 setWeight", x -> x.setWeight(0, 10));
        there.index("P10 removeEvent", x -> x.removeEvent(9));
        there.argument("P11 split", x -> x.split(1, 2));
        there.unsupported("P14 place", x -> x.place(0, 0));
        there.state("P15 unplace", x -> x.unplace(4));
        there.state("P16 fix", x -> x.fix(4, true) ? 1 : 0);
        there.unsupported("P23 insert", x -> x.insert(5));
        there.unsupported("P25 exchange", x -> x.exchange(0, 9));
        there.argument("P27 improve", x -> x.improve(0));
        Refusals full = new Refusals(Scene::full);
        full.failsButReads("P8 addEvent", Check.STATE, TimetableBuilder::addEvent);
    }

    // "At most 6 of them can be taken back by undo; older ones are forgotten."

    private static TimetableBuilder sized(int changes) {
        TimetableBuilder x = new TimetableBuilder();
        for (int change = 1; change <= changes; change++) {
            x.setGroup(2, change);
        }
        return x;
    }

    private static void sixChanges() {
        for (int changes = 0; changes <= 6; changes++) {
            int c = changes;
            TimetableBuilder x = sized(c);
            Check.due("P33 changes", c, () -> x.count(4));
            for (int left = c - 1; left >= 0; left--) {
                int k = left;
                Check.due("P34 still", k, x::undo);
                Check.due("P33 still", k, () -> x.count(4));
                Check.due("P34 the size then", k == 0 ? 10 : k, () -> x.setting(2, 2));
            }
            Check.fails("P34 no more", Check.STATE, x::undo);
        }
    }

    private static void olderOnesAreForgotten() {
        for (int changes = 7; changes <= 30; changes++) {
            int c = changes;
            TimetableBuilder x = sized(c);
            Check.due("P33 only six of " + c, 6, () -> x.count(4));
            for (int left = 5; left >= 0; left--) {
                int k = left;
                Check.due("P34 still", k, x::undo);
                Check.due("P34 the size then", c - 6 + k, () -> x.setting(2, 2));
            }
            Check.fails("P34 no more of " + c, Check.STATE, x::undo);
            Check.due("P34 older ones stay", c - 6, () -> x.setting(2, 2));
        }
    }

    private static void oneOlderThanSix() {
        TimetableBuilder x = Check.with("0:0");
        for (int weight = 2; weight <= 7; weight++) {
            x.setWeight(0, weight);
        }
        for (int times = 0; times < 6; times++) {
            x.undo();
        }
        Check.due("P34 the event was the seventh", 1, () -> x.count(0));
        Check.fails("P34 so it stays", Check.STATE, x::undo);
        Check.due("P34 the first weight", 1, () -> x.setWeight(0, 1));
    }

    // "Takes back the latest change that was not taken back."

    private static void undoneOnesAreGone() {
        TimetableBuilder x = sized(6);
        x.undo();
        x.undo();
        Check.due("P34 two back", 4, () -> x.setting(2, 2));
        x.setGroup(2, 20);
        Check.due("P33 one more", 5, () -> x.count(4));
        Check.due("P34 the new one first", 4, x::undo);
        Check.due("P34 not the undone ones", 4, () -> x.setting(2, 2));
        Check.due("P34 then the one before them", 3, x::undo);
        Check.due("P34 which is the third", 3, () -> x.setting(2, 2));
    }

    private static void changesAfterUndo() {
        for (int back = 1; back <= 6; back++) {
            int b = back;
            TimetableBuilder x = sized(9);
            for (int times = 0; times < b; times++) {
                x.undo();
            }
            for (int more = 1; more <= b + 1; more++) {
                int m = more;
                x.setGroup(2, 20 + m);
                Check.due("P33 up to six again", Math.min(6, 6 - b + m), () -> x.count(4));
            }
            for (int times = 0; times < 6; times++) {
                x.undo();
            }
            Check.due("P34 one older is forgotten", b == 6 ? 21 : 4, () -> x.setting(2, 2));
        }
    }

    // "Throws IllegalStateException if there is none"

    private static void undoRefuses() {
        Refusals fresh = new Refusals(TimetableBuilder::new);
        fresh.state("P34 no change", TimetableBuilder::undo);
        Refusals undone = new Refusals(() -> {
            TimetableBuilder x = Scene.rich();
            for (int times = 0; times < 6; times++) {
                x.undo();
            }
            return x;
        });
        undone.state("P34 all six are taken back", TimetableBuilder::undo);
    }

    private static void undoAndTheBuffer() {
        TimetableBuilder x = Scene.rich();
        x.addEvent();
        Check.type(x, "0:1,");
        Check.due("P34 the event is taken back", 5, x::undo);
        Check.due("P33 no event is left of it", 9, () -> x.count(0));
        Check.due("P33 the buffer is as it was", 4, () -> x.count(3));
        Check.due("P9 the text read most recently had no error", -1, x::errorPosition);
        Check.type(x, "2*2");
        Check.due("P8 the buffer can be used", 9, x::addEvent);
        Check.same("P8 with its whole text", "0:1,2*2", Check.describe(x, 9));
    }

    // "Saves everything but the buffer, the error position and the changes, replacing what was saved before.",
    // "Returns the number of events."

    private static void saveAnswers() {
        TimetableBuilder x = new TimetableBuilder();
        Check.due("P35 no events", 0, x::save);
        Check.due("P36 no events", 0, x::restore);
        for (int event = 0; event < 14; event++) {
            int e = event;
            Check.add(x, "0:0");
            Check.due("P35 events", e + 1, x::save);
            Check.due("P36 events", e + 1, x::restore);
        }
        x.removeEvent(0);
        Check.due("P36 the number that was saved", 14, x::restore);
        Check.due("P33 they are there", 14, () -> x.count(0));
    }

    private static void saveReplaces() {
        TimetableBuilder x = sized(3);
        x.save();
        x.setGroup(2, 30);
        x.save();
        x.setGroup(2, 31);
        x.restore();
        Check.due("P36 the latter one", 30, () -> x.setting(2, 2));
        x.undo();
        x.undo();
        x.undo();
        Check.due("P34 back to the first one", 3, () -> x.setting(2, 2));
        x.restore();
        Check.due("P36 it was replaced", 30, () -> x.setting(2, 2));
    }

    private static void saveIsNoChange() {
        for (int changes = 0; changes <= 7; changes++) {
            int c = changes;
            TimetableBuilder x = sized(c);
            x.save();
            Check.due("P33 as many changes as before", Math.min(6, c), () -> x.count(4));
            if (c > 0) {
                x.undo();
                Check.due("P34 the one before save", c == 1 ? 10 : c - 1, () -> x.setting(2, 2));
            }
        }
    }

    private static void whatIsNotSaved() {
        TimetableBuilder x = Check.with("0:0");
        Check.type(x, "0:x");
        Check.fails("P8 an error", Check.ARGUMENT, x::addEvent);
        Check.type(x, "1:1");
        x.save();
        Check.type(x, ",2");
        x.restore();
        Check.due("P36 the buffer stays", 5, () -> x.count(3));
        Check.due("P36 the error position stays", 2, x::errorPosition);
        Check.due("P8 the whole text", 1, x::addEvent);
        Check.same("P8 is read", "1:1,2", Check.describe(x, 1));
        x.restore();
        Check.due("P36 the buffer is not filled again", 0, () -> x.count(3));
        Check.due("P36 nor is there an error again", -1, x::errorPosition);
        Check.due("P33 an event, restore, an event, restore", 4, () -> x.count(4));
        x.save();
        x.undo();
        x.undo();
        Check.due("P33 the changes are not saved", 2, () -> x.count(4));
        x.restore();
        Check.due("P33 restore adds one", 3, () -> x.count(4));
    }

    private static void whatIsSaved() {
        List<String> due = settingsAndEvents(Scene.rich());
        TimetableBuilder x = Scene.rich();
        x.save();
        spoil(x);
        Check.due("all is different", false, due.equals(settingsAndEvents(x)));
        Check.due("P36 nine events", 9, x::restore);
        Look.same("P36 all is as it was", due, settingsAndEvents(x));
        int[] weights = {2, 4, 5};
        for (int what = 0; what <= 2; what++) {
            int k = what;
            Check.due("P36 weight " + k, weights[k], () -> x.setWeight(k, 0));
        }
    }

    /** Makes every part of the table another one. */
    private static void spoil(TimetableBuilder x) {
        for (int index = 0; index < 6; index++) {
            x.setRoom(index, 50 + index, index + 1);
            x.setGroup(index, 20 + index);
            x.setTeacher(index, 900 + index);
        }
        for (int what = 0; what <= 2; what++) {
            x.setWeight(what, 9);
        }
        for (int event = 7; event >= 0; event -= 2) {
            x.removeEvent(event);
        }
        x.addEvent();
        x.build();
        x.mark();
    }

    private static List<String> settingsAndEvents(TimetableBuilder x) {
        List<String> lines = new ArrayList<>();
        for (int index = 0; index < 24; index++) {
            lines.add("setting " + index + " is " + x.setting(index / 6, index % 6));
        }
        for (int event = 0; event < x.count(0); event++) {
            lines.add("event " + event + " is " + Check.describe(x, event) + " at " + x.event(event, 5) + ", fixed "
                + x.event(event, 6) + ", marked " + x.marked(event));
        }
        lines.add("changed " + x.changed());
        lines.add("cost " + x.cost(4));
        return lines;
    }

    private static void savedIsApart() {
        TimetableBuilder x = Scene.rich();
        List<String> due = settingsAndEvents(x);
        x.save();
        x.restore();
        spoil(x);
        x.restore();
        Look.same("P36 what is restored may change", due, settingsAndEvents(x));
        for (int times = 0; times < 6; times++) {
            x.undo();
        }
        x.restore();
        Look.same("P36 undo leaves what is saved", due, settingsAndEvents(x));
    }

    // "Restores what was saved; it stays saved."

    private static void staysSaved() {
        TimetableBuilder x = sized(3);
        x.save();
        for (int times = 0; times < 10; times++) {
            x.setGroup(2, 20 + times);
            Check.due("P36 no events", 0, x::restore);
            Check.due("P36 every time", 3, () -> x.setting(2, 2));
        }
    }

    // "Throws IllegalStateException if nothing was saved"

    private static void restoreRefuses() {
        Refusals fresh = new Refusals(TimetableBuilder::new);
        fresh.state("P36 nothing was saved", TimetableBuilder::restore);
        FULL.state("P36 nothing was saved here", TimetableBuilder::restore);
        Refusals none = new Refusals(() -> {
            TimetableBuilder x = new TimetableBuilder();
            x.save();
            return x;
        });
        TimetableBuilder y = new TimetableBuilder();
        y.save();
        Check.add(y, "0:0");
        Check.due("P36 a table without events was", 0, y::restore);
        Check.due("P33 no event is there", 0, () -> y.count(0));
        none.state("P34 save is no change", TimetableBuilder::undo);
    }

    private static void restoreIsAChange() {
        TimetableBuilder x = sized(2);
        x.save();
        x.setGroup(2, 30);
        x.restore();
        Check.due("P33 one change more", 4, () -> x.count(4));
        Check.due("P34 taken back", 3, x::undo);
        Check.due("P34 what was before it", 30, () -> x.setting(2, 2));
        Check.due("P34 the change before it", 2, x::undo);
        Check.due("P34 is taken back too", 2, () -> x.setting(2, 2));
        Check.due("P34 and the ones before save", 1, x::undo);
        Check.due("P34 as they were", 1, () -> x.setting(2, 2));
    }

    // "An object is used for at most 512 calls after it has been made"

    private static void the512thCall() {
        TimetableBuilder x = new TimetableBuilder();
        for (int call = 1; call <= 511; call++) {
            x.setWeight(call % 3, call % 10);
        }
        Check.due("the 512th call", 1, () -> x.setWeight(1, 0));
        TimetableBuilder y = new TimetableBuilder();
        for (int call = 1; call <= 255; call++) {
            y.setGroup(0, call % 41);
            y.undo();
        }
        y.setGroup(0, 40);
        Check.due("the 512th call takes back", 0, y::undo);
    }
}
