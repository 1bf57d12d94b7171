/** Promise 8: what count() tells. */
final class Promise08CountTest {
    private static void counts(ConsYard yard, String when, int... due) {
        for (int what = 0; what < due.length; what++) {
            Checks.due(when + ": count(" + what + ")", yard.count(what), due[what]);
        }
    }

    public static void main(String[] args) {
        ConsYard yard = new ConsYard();
        counts(yard, "new", 23, 0, 0, 0, 0, 0, 0, 1000, 0);
        Checks.define(yard, "SECOND (LAMBDA (L) (CAR (CDR L)))");
        counts(yard, "define", 25, 8, 0, 0, 8, 0, 0, 1000, 1);
        Checks.eval(yard, "(SECOND '(A B C))", 1000);
        // EVALUATE, EVALUATE, RETURN, APPLY, APPLY; (CAR ..), (CDR ..), L and its PAIR, RETURN, APPLY, RETURN, APPLY, RETURN
        counts(yard, "eval", 28, 8, 14, 2, 17, 1, 0, 1000, 1);
        Checks.echo(yard, "(A . B)");
        counts(yard, "echo leaves FUEL and FRAMES", 28, 8, 14, 2, 18, 7, 0, 1000, 1);
        Checks.feed(yard, "(A B");
        counts(yard, "feed", 28, 8, 14, 2, 18, 7, 20, 1000, 1);
        yard.eval(4, 1000);
        counts(yard, "eval of a text with a FAULT", 28, 8, 0, 0, 18, 0, 0, 1000, 1);
        Checks.eval(yard, "(SECOND (SECOND (SECOND 5)))", 1000);
        counts(yard, "eval with a FAULT", 28, 8, 13, 4, 26, 0, 0, 1000, 1);
        Checks.eval(yard, "(LIST 1 2 (LIST 3 (LIST 4)))", 13);
        counts(yard, "eval that ran out of FUEL", 28, 8, 13, 3, 36, 0, 0, 1000, 1);
        yard.function(23);
        counts(yard, "function", 28, 8, 13, 3, 36, 26, 0, 1000, 1);
        Checks.define(yard, "OTHER (A)");
        Checks.define(yard, "SECOND CDR");
        yard.room(77);
        counts(yard, "define, room", 29, 1, 13, 3, 37, 26, 0, 77, 2);
        Checks.eval(yard, "5", 9);
        counts(yard, "eval of an ATOM", 29, 1, 2, 0, 37, 1, 0, 77, 2);
        for (int what : new int[] {-1, 9, 10, 100, Integer.MIN_VALUE, Integer.MAX_VALUE}) {
            Checks.due("count(" + what + ")", yard.count(what), ConsYard.NONE);
        }
        sharedCellsCountOnce();
        Checks.finish("Promise08CountTest");
    }

    private static void sharedCellsCountOnce() {
        ConsYard yard = new ConsYard();
        yard.room(12);
        Checks.define(yard, "P (LAMBDA (X) (CONS X X))");
        Checks.due("CELLS of P", yard.count(1), 7);
        Checks.due("a CELL whose HEAD and TAIL are one", Checks.evalOutcome(yard, "(P 1)"), "(1 . 1)");
        Checks.due("made ever", yard.count(4), 12);
    }
}
