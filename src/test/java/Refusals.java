import java.util.List;

/** Calls of one builder that are refused, or that only ask: nothing that the calls show is different behind them. */
final class Refusals {
    interface Act {
        long on(TimetableBuilder x);
    }

    private final Look.Recipe recipe;
    private final List<String> before;
    private final List<String> tableBefore;

    Refusals(Look.Recipe recipe) {
        this.recipe = recipe;
        before = Look.at(recipe);
        tableBefore = Look.atTable(recipe);
    }

    /** Throws this very exception, and leaves all as it was. */
    void fails(String what, Class<? extends RuntimeException> due, Act act) {
        TimetableBuilder x = recipe.make();
        Check.fails(what, due, () -> act.on(x));
        Look.same(what + " left a trace", before, Look.at(() -> after(act)));
    }

    void index(String what, Act act) {
        fails(what, Check.INDEX, act);
    }

    void argument(String what, Act act) {
        fails(what, Check.ARGUMENT, act);
    }

    void state(String what, Act act) {
        fails(what, Check.STATE, act);
    }

    void unsupported(String what, Act act) {
        fails(what, Check.UNSUPPORTED, act);
    }

    /** Throws it too, but may have emptied the buffer and moved the error position. */
    void failsButReads(String what, Class<? extends RuntimeException> due, Act act) {
        TimetableBuilder x = recipe.make();
        Check.fails(what, due, () -> act.on(x));
        Look.same(what + " left a trace", tableBefore, Look.atTable(() -> after(act)));
    }

    /** Answers this, and leaves all as it was. */
    void asks(String what, long due, Act act) {
        TimetableBuilder x = recipe.make();
        Check.due(what, due, () -> act.on(x));
        Look.same(what + " left a trace", before, Look.at(() -> after(act)));
    }

    private TimetableBuilder after(Act act) {
        TimetableBuilder x = recipe.make();
        Check.answer(() -> act.on(x));
        return x;
    }
}
