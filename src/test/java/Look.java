import java.util.ArrayList;
import java.util.List;

/**
 * All that the calls show of a builder, a line each. Each part is asked of an object made anew: many questions change
 * the builder (undo, restore, addEvent), and no object may be used for more than 512 calls.
 */
final class Look {
    interface Recipe {
        TimetableBuilder make();
    }

    private final Recipe recipe;
    private final List<String> lines = new ArrayList<>();

    private Look(Recipe recipe) {
        this.recipe = recipe;
    }

    static List<String> at(Recipe recipe) {
        Look look = new Look(recipe);
        look.buffer();
        look.table();
        return look.lines;
    }

    /** The buffer and the error position are left out, as save leaves them out. */
    static List<String> atTable(Recipe recipe) {
        Look look = new Look(recipe);
        look.table();
        return look.lines;
    }

    /** Empty if the two show the same, otherwise the first line in which they differ. */
    static String difference(List<String> one, List<String> other) {
        for (int i = 0; i < Math.max(one.size(), other.size()); i++) {
            String a = i < one.size() ? one.get(i) : "nothing";
            String b = i < other.size() ? other.get(i) : "nothing";
            if (!a.equals(b)) {
                return a + " became " + b;
            }
        }
        return "";
    }

    static void same(String what, List<String> want, List<String> got) {
        Check.same(what, "", difference(want, got));
    }

    private void ask(String what, Check.Call call) {
        lines.add(what + " " + Check.answer(call));
    }

    private void buffer() {
        TimetableBuilder x = recipe.make();
        ask("count(3)", () -> x.count(3));
        ask("errorPosition()", x::errorPosition);
        if (x.count(0) == 14) {
            x.removeEvent(0);
        }
        ask("addEvent() of the buffer", x::addEvent);
        ask("errorPosition() of the buffer", x::errorPosition);
        int last = x.count(0) - 1;
        ask("length of the last event", () -> x.describe(last, -1));
        for (int what = 0; what <= 3; what++) {
            int k = what;
            ask("the last event, " + k, () -> x.event(last, k));
        }
    }

    private void table() {
        whole();
        int events = recipe.make().count(0);
        for (int event = 0; event < events; event++) {
            oneEvent(event);
        }
        int changes = recipe.make().count(4);
        for (int back = 0; back <= changes + 1; back++) {
            past(back);
        }
        TimetableBuilder x = recipe.make();
        ask("restore()", x::restore);
        parts("restored: ", x);
        ask("the first change taken back then", x::undo);
        ask("and its cost", () -> x.cost(4));
    }

    private void whole() {
        TimetableBuilder x = recipe.make();
        ask("count(4)", () -> x.count(4));
        for (int index = 0; index < 18; index++) {
            int k = index;
            ask("taken(" + k / 6 + ", " + k % 6 + ")", () -> x.taken(k / 6, k % 6));
        }
        for (int place = 0; place < 60; place++) {
            int k = place;
            ask("at(" + k / 6 + ", " + k % 6 + ")", () -> x.at(k / 6, k % 6));
        }
    }

    private void oneEvent(int event) {
        TimetableBuilder x = recipe.make();
        String name = "event " + event + ": ";
        lines.add(name + Check.describe(x, event));
        for (int obstacle = 0; obstacle <= 7; obstacle++) {
            int k = obstacle;
            ask(name + "places " + k, () -> x.places(event, k));
        }
        for (int place = 0; place < 60; place++) {
            int k = place;
            ask(name + "obstacle " + k, () -> x.obstacle(event, k));
            ask(name + "hindering " + k, () -> x.hindering(event, k));
            ask(name + "costAt " + k, () -> x.costAt(event, k));
        }
        for (int slot = 0; slot < 10; slot++) {
            int k = slot;
            ask(name + "chain " + k, () -> x.chain(event, k));
        }
        for (int index = 0; index <= x.places(event, 0); index++) {
            int k = index;
            ask(name + "free " + k, () -> x.free(event, k));
        }
    }

    private void past(int back) {
        TimetableBuilder x = recipe.make();
        for (int i = 0; i < back; i++) {
            ask("undo()", x::undo);
        }
        parts("taken back " + back + ": ", x);
    }

    /** What save saves; the weights come last, as setWeight alone shows them. */
    private void parts(String when, TimetableBuilder x) {
        for (int index = 0; index < 24; index++) {
            int k = index;
            ask(when + "setting(" + k / 6 + ", " + k % 6 + ")", () -> x.setting(k / 6, k % 6));
        }
        for (int event = 0; event < x.count(0); event++) {
            int e = event;
            for (int what = 0; what <= 6; what++) {
                int k = what;
                ask(when + "event(" + e + ", " + k + ")", () -> x.event(e, k));
            }
            ask(when + "marked(" + e + ")", () -> x.marked(e));
        }
        ask(when + "changed()", x::changed);
        for (int what = 0; what <= 4; what++) {
            int k = what;
            ask(when + "cost(" + k + ")", () -> x.cost(k));
            ask(when + "count(" + k + ")", () -> k == 3 ? 0 : x.count(k));
        }
        for (int what = 0; what <= 2; what++) {
            int k = what;
            ask(when + "weight " + k, () -> x.setWeight(k, 9));
        }
    }
}
