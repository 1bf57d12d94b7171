/** Promise 4: an S is EVALUATED and PRINTED, or its FAULT is told and the PAGE is empty. */
final class Promise04EvalTest {
    public static void main(String[] args) {
        printsTheAnswer();
        tellsFaults();
        countsFuel();
        throwsForWrongArguments();
        Checks.finish("Promise04EvalTest");
    }

    private static void printsTheAnswer() {
        ConsYard yard = new ConsYard();
        Checks.due("eval 7", Checks.evalOutcome(yard, "7"), "7");
        Checks.due("place", yard.place(), ConsYard.NONE);
        Checks.due("the TAPE is empty then", yard.count(6), 0);
        Checks.due("eval a list", Checks.evalOutcome(yard, "(CONS 'A '(B . C))"), "(A B . C)");
        Checks.due("bytes of the PAGE", yard.count(5), 9);
        Checks.due("nothing is bound between calls", Checks.evalOutcome(yard, "((LAMBDA (X) X) 3)"), "3");
        Checks.due("X then", Checks.evalOutcome(yard, "X"), "fault 6 at -1");
    }

    private static void tellsFaults() {
        ConsYard yard = new ConsYard();
        Checks.eval(yard, "'ABC", Checks.FUEL);
        Checks.due("a FAULT of the machine", Checks.eval(yard, "(CAR 5)", Checks.FUEL), 13);
        Checks.due("has no place", yard.place(), ConsYard.NONE);
        Checks.due("the PAGE is empty then", yard.count(5), 0);
        Checks.due("no byte", yard.octet(0), ConsYard.NONE);
        Checks.eval(yard, "'ABC", Checks.FUEL);
        Checks.due("a FAULT of the text", Checks.eval(yard, "(CAR 5", Checks.FUEL), 1);
        Checks.due("has a place", yard.place(), 6);
        Checks.due("the PAGE is empty then", yard.count(5), 0);
        Checks.due("the TAPE is empty then", yard.count(6), 0);
        Checks.eval(yard, "'ABC", Checks.FUEL);
        Checks.due("eval(0, 5)", yard.eval(0, 5), 1);
        Checks.due("at 0", yard.place(), 0);
        Checks.due("two S", Checks.evalOutcome(yard, "1 2"), "fault 1 at 2");
    }

    private static void countsFuel() {
        ConsYard yard = new ConsYard();
        Checks.due("no FUEL", Checks.eval(yard, "7", 0), 7);
        Checks.due("took none", yard.count(2), 0);
        Checks.due("one", Checks.eval(yard, "7", 1), 7);
        Checks.due("took it", yard.count(2), 1);
        Checks.due("the PAGE is empty then", yard.count(5), 0);
        Checks.due("two", Checks.eval(yard, "7", 2), 0);
        Checks.due("took both", yard.count(2), 2);
        Checks.define(yard, "F (LAMBDA () (F))");
        Checks.due("without end", Checks.eval(yard, "(F)", 20000), 7);
        Checks.due("took all", yard.count(2), 20000);
        Checks.due("had no FRAMES", yard.count(3), 0);
        Checks.due("a text with a FAULT", Checks.eval(yard, "(F", 20000), 1);
        Checks.due("takes none", yard.count(2), 0);
    }

    private static void throwsForWrongArguments() {
        ConsYard yard = new ConsYard();
        Checks.eval(yard, "(CAR '(AB C))", 100);
        Checks.feed(yard, "'A");
        Checks.throwsIllegalArgument("eval(21, 1)", () -> yard.eval(21, 1));
        Checks.throwsIllegalArgument("eval(-1, 1)", () -> yard.eval(-1, 1));
        Checks.throwsIllegalArgument("eval(2, -1)", () -> yard.eval(2, -1));
        Checks.throwsIllegalArgument("eval(2, 20001)", () -> yard.eval(2, 20001));
        Checks.throwsIllegalArgument("eval(2, most)", () -> yard.eval(2, Integer.MAX_VALUE));
        Checks.throwsIllegalArgument("eval(2, least)", () -> yard.eval(2, Integer.MIN_VALUE));
        Checks.due("the TAPE stays", yard.count(6), 20);
        Checks.due("the PAGE stays", Checks.page(yard), "AB");
        Checks.due("the FUEL told stays", yard.count(2), 5);
        Checks.due("eval(20, 20000)", yard.eval(20, 20000), 0);
    }
}
