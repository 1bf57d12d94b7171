/** Promise 3: a SYMBOL gets its function, or the text's FAULT is told and nothing is defined. */
final class Promise03DefineTest {
    public static void main(String[] args) {
        defines();
        definesAnew();
        refuses();
        changesNothingByAFault();
        throwsForAWrongLength();
        Checks.finish("Promise03DefineTest");
    }

    private static void defines() {
        ConsYard yard = new ConsYard();
        Checks.due("define F", Checks.define(yard, "  F\n(LAMBDA (X) (CONS X 'X))  "), 0);
        Checks.due("place", yard.place(), ConsYard.NONE);
        Checks.due("the TAPE is empty then", yard.count(6), 0);
        Checks.due("functions", yard.count(8), 1);
        Checks.due("CELLS", yard.count(1), 9);
        Checks.due("it is used", Checks.evalOutcome(yard, "(F 3)"), "(3 . X)");
        Checks.due("without a blank", Checks.define(yard, "G'Y"), 0);
        Checks.due("function G", yard.function(25), 9);
        Checks.due("as it is PRINTED", Checks.page(yard), "(QUOTE Y)");
        Checks.due("a NUMBER right behind", Checks.define(yard, "H-7"), 0);
        Checks.due("a built-in one", Checks.define(yard, "CAR CDR"), 0);
        Checks.due("is another now", Checks.evalOutcome(yard, "(CAR '(A B))"), "(B)");
        Checks.due("functions", yard.count(8), 4);
        Checks.due("NIL as a function", Checks.define(yard, "N NIL"), 0);
        Checks.due("counts as one", yard.count(8), 5);
    }

    private static void definesAnew() {
        ConsYard yard = new ConsYard();
        Checks.define(yard, "F (A B C)");
        Checks.due("CELLS", yard.count(1), 3);
        Checks.due("define F anew", Checks.define(yard, "F (D)"), 0);
        Checks.due("functions", yard.count(8), 1);
        Checks.due("the old CELLS are gone", yard.count(1), 1);
        Checks.due("function F", yard.function(23), 3);
        Checks.due("it is the new one", Checks.page(yard), "(D)");
        Checks.due("define does nothing to the PAGE", Checks.define(yard, "F 5") + yard.count(5), 3);
        Checks.due("nor does its FAULT", Checks.define(yard, "F )") + yard.count(5), 4);
    }

    private static void refuses() {
        String[][] texts = {
            {"", "1 0"}, {"   ", "1 3"}, {"F", "1 1"}, {"F  ", "1 3"}, {"(F) A", "1 0"}, {" 'F A", "1 1"}, {"12 A", "1 0"},
            {"-5 A", "1 0"}, {"99999999999 A", "1 0"}, {". A", "1 0"}, {") A", "1 0"}, {"f A", "1 0"}, {"NIL A", "1 0"},
            {" T A", "1 1"}, {"QUOTE A", "1 0"}, {"COND A", "1 0"}, {"FUNCTION A", "1 0"}, {"LAMBDA A", "1 0"},
            {"LABEL A", "1 0"}, {"FUNARG A", "1 0"}, {"ABCDEFGHIJK A", "2 0"}, {" A123456789B A", "2 1"}, {"F A B", "1 4"},
            {"F (A", "1 4"}, {"F )", "1 2"}, {"F .", "1 2"}, {"F (A . B C)", "1 9"}, {"F 2147483648", "2 2"}, {"FUNARG", "1 0"},
        };
        for (String[] row : texts) {
            ConsYard yard = new ConsYard();
            int fault = Checks.define(yard, row[0]);
            Checks.due("define [" + row[0] + "]", fault + " " + yard.place(), row[1]);
            Checks.due("nothing is defined", yard.count(8), 0);
            Checks.due("the TAPE is empty then", yard.count(6), 0);
        }
    }

    private static void changesNothingByAFault() {
        ConsYard yard = new ConsYard();
        Checks.define(yard, "F (A B C)");
        Checks.due("a FAULT behind F", Checks.define(yard, "F (D E G . )"), 1);
        Checks.due("SYMBOLS stay", yard.count(0), 30);
        Checks.due("F stays", yard.function(23), 7);
        Checks.due("as it was", Checks.page(yard), "(A B C)");
        yard.room(5);
        Checks.due("no ROOM beside the old one", Checks.define(yard, "F (D E G)"), 8);
        Checks.due("at its )", yard.place(), 8);
        Checks.due("F stays", yard.function(23), 7);
        Checks.due("CELLS", yard.count(1), 3);
        Checks.due("ROOM beside the old one", Checks.define(yard, "F (D E)"), 0);
        Checks.due("CELLS", yard.count(1), 2);
    }

    private static void throwsForAWrongLength() {
        ConsYard yard = new ConsYard();
        Checks.throwsIllegalArgument("define(1) of nothing", () -> yard.define(1));
        Checks.feed(yard, "F (A)");
        Checks.throwsIllegalArgument("define(21)", () -> yard.define(21));
        Checks.throwsIllegalArgument("define(-1)", () -> yard.define(-1));
        Checks.throwsIllegalArgument("define(least)", () -> yard.define(Integer.MIN_VALUE));
        Checks.throwsIllegalArgument("define(most)", () -> yard.define(Integer.MAX_VALUE));
        Checks.due("the TAPE stays", yard.count(6), 20);
        Checks.due("define(0)", yard.define(0), 1);
        Checks.due("at 0", yard.place(), 0);
        Checks.feed(yard, "F (A)");
        Checks.due("define(20)", yard.define(20), 0);
    }
}
