/**
 * Two objects with the same calls behind them. A call that only one of them gets must show in nothing,
 * now or later, if the document says that it does nothing.
 */
final class Twins {
    /** A call of the face, or several. */
    interface Call {
        int on(ConsYard yard);
    }

    static final String THROWS = "throws java.lang.IllegalArgumentException";

    private final ConsYard called = new ConsYard();
    private final ConsYard spared = new ConsYard();

    static String answer(ConsYard yard, Call call) {
        try {
            return String.valueOf(call.on(yard));
        } catch (RuntimeException e) {
            return "throws " + e.getClass().getName();
        }
    }

    /** A call that both get. */
    Twins both(Call call) {
        Checks.due("the same call on two objects", answer(called, call), answer(spared, call));
        return this;
    }

    /** A call that only one gets. */
    Twins refused(String what, Call call, String due) {
        Checks.due(what, answer(called, call), due);
        Checks.due(what + " changes nothing", Checks.state(called), Checks.state(spared));
        return this;
    }

    /** What the TAPE, the functions and MEMORY hold, seen by calls that change the objects. */
    void stayTheSame(String what) {
        Checks.due(what + ": the TAPE", later(called), later(spared));
        for (int k = 0; k <= 300; k++) {
            Checks.due(what + ": function " + k, called.function(k) + Checks.page(called), spared.function(k) + Checks.page(spared));
        }
        Checks.due(what + ": the machine", Checks.evalOutcome(called, "(F '(A B))"), Checks.evalOutcome(spared, "(F '(A B))"));
        Checks.due(what + ": MEMORY", Checks.echoOutcome(called, "(A B C D E F G H)"), Checks.echoOutcome(spared, "(A B C D E F G H)"));
        Checks.due(what + ": all", Checks.state(called), Checks.state(spared));
    }

    private static String later(ConsYard yard) {
        return Checks.outcome(yard, yard.echo(yard.count(6)));
    }
}
