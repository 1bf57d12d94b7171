/** Promise 1: a new object has no functions, an empty TAPE and an empty PAGE. */
final class Promise01NewTest {
    private static final String[] FIRST = {"NIL", "T", "QUOTE", "COND", "FUNCTION", "LAMBDA", "LABEL", "FUNARG", "CAR", "CDR",
        "CONS", "ATOM", "EQ", "NULL", "LIST", "EVAL", "NUMBERP", "PLUS", "DIFFERENCE", "TIMES", "QUOTIENT", "REMAINDER", "LESSP"};

    public static void main(String[] args) {
        isEmpty();
        hasTheFirstSymbols();
        objectsAreApart();
        Checks.finish("Promise01NewTest");
    }

    private static void isEmpty() {
        ConsYard yard = new ConsYard();
        int[] counts = {23, 0, 0, 0, 0, 0, 0, 1000, 0};
        for (int what = 0; what < counts.length; what++) {
            Checks.due("new: count(" + what + ")", yard.count(what), counts[what]);
        }
        for (int k = -1; k < 301; k++) {
            Checks.due("new: function(" + k + ")", yard.function(k), ConsYard.NONE);
        }
        Checks.due("new: octet(0)", yard.octet(0), ConsYard.NONE);
        Checks.due("new: place()", yard.place(), ConsYard.NONE);
        Checks.due("the constant NONE", ConsYard.NONE, -1);
        Checks.throwsIllegalArgument("new: echo(1)", () -> yard.echo(1));
    }

    private static void hasTheFirstSymbols() {
        ConsYard yard = new ConsYard();
        for (int k = 0; k < FIRST.length; k++) {
            Checks.due("echo " + FIRST[k], Checks.echoOutcome(yard, FIRST[k]), FIRST[k]);
            Checks.due("no new SYMBOL by " + FIRST[k], yard.count(0), 23);
            boolean free = k > 7;
            Checks.due("define " + FIRST[k], Checks.define(yard, FIRST[k] + " A" + FIRST[k].charAt(0)), free ? 0 : 1);
            Checks.due("function " + k, yard.function(k), free ? 2 : ConsYard.NONE);
            if (!free) {
                Checks.due("place of " + FIRST[k], yard.place(), 0);
            }
            yard = new ConsYard();
        }
        Checks.echo(yard, "(NEW OTHER NEW)");
        Checks.define(yard, "OTHER 77");
        Checks.due("SYMBOLS as they are read first", yard.function(24), 2);
        Checks.due("two of them", yard.count(0), 25);
    }

    private static void objectsAreApart() {
        ConsYard one = new ConsYard();
        ConsYard other = new ConsYard();
        Checks.define(one, "F (A B)");
        Checks.echo(one, "(X Y Z)");
        one.room(5);
        Checks.feed(one, "TAPE");
        Checks.due("SYMBOLS of the other", other.count(0), 23);
        Checks.due("functions of the other", other.count(8), 0);
        Checks.due("CELLS made of the other", other.count(4), 0);
        Checks.due("PAGE of the other", other.count(5), 0);
        Checks.due("TAPE of the other", other.count(6), 0);
        Checks.due("ROOM of the other", other.count(7), 1000);
    }
}
