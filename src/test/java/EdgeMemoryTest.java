/**
 * The boundary cases of MEMORY, each in a method of its own. Functions hold most of the code here, so
 * that a text is short and the machine, not the reader, needs the most ROOM.
 */
final class EdgeMemoryTest {
    public static void main(String[] args) {
        aThousandAtFirst();
        twoThousandAtMost();
        noneAtAll();
        asManyAsRoomBesideFunctions();
        functionsAreRoots();
        whatWasReadIsARoot();
        xIsARoot();
        envIsARoot();
        valuesAreRoots();
        theFunctionAtHandIsARoot();
        framesOfFunctionsAreRoots();
        framesOfCondAreRoots();
        cellsOfTheSameActAreRoots();
        whatIsNotReachedCountsForNothing();
        noFaultKeepsAnything();
        sharedCellsCountOnce();
        headsInHeads();
        theMachinesFaultHasNoPlace();
        cellsNeverChange();
        Checks.finish("EdgeMemoryTest");
    }

    private static ConsYard yardWith(String... functions) {
        ConsYard yard = new ConsYard();
        yard.room(2000);
        for (String function : functions) {
            Checks.due("define " + function, Checks.define(yard, function), 0);
        }
        return yard;
    }

    /** In so much ROOM, and in any more, the answer is right; in one less the machine has FAULT 8. */
    private static void needs(ConsYard yard, String text, int room, String answer) {
        for (int more = 0; more <= 40; more++) {
            yard.room(room + more);
            Checks.due(text + " in " + (room + more), Checks.evalOutcome(yard, text), answer);
        }
        yard.room(room - 1);
        Checks.due(text + " in " + (room - 1), Checks.evalOutcome(yard, text), "fault 8 at -1");
        yard.room(2000);
    }

    /** Three CELLS for each quote in the list, one for each 1. */
    private static String quotes(int quotes, int ones) {
        return "(" + "'A".repeat(quotes) + " 1".repeat(ones) + ")";
    }

    /** "as many as ROOM (1,000 at first)". */
    private static void aThousandAtFirst() {
        ConsYard yard = new ConsYard();
        Checks.due("999 CELLS", Checks.echo(yard, quotes(333, 0)), 0);
        Checks.due("1,000 CELLS", Checks.echo(yard, quotes(333, 1)), 0);
        Checks.due("1,001 CELLS", Checks.echoOutcome(yard, quotes(333, 2)), "fault 8 at 671");
        Checks.due("made", yard.count(4), 3 * 1000 - 1);
        Checks.due("1,000 CELLS of a function", Checks.define(yard, "F " + quotes(333, 1)), 0);
        Checks.due("1 CELL more", Checks.echoOutcome(yard, "(1)"), "fault 8 at 2");
        Checks.due("no CELL more", Checks.echoOutcome(yard, "1"), "1");
    }

    /** "n is not 0 to 2,000": the largest ROOM holds 2,000. */
    private static void twoThousandAtMost() {
        ConsYard yard = new ConsYard();
        yard.room(2000);
        Checks.due("1,999 CELLS", Checks.echo(yard, quotes(666, 1)), 0);
        Checks.due("2,000 CELLS", Checks.echo(yard, quotes(666, 2)), 0);
        Checks.due("2,001 CELLS", Checks.echoOutcome(yard, quotes(666, 3)), "fault 8 at 1339");
        Checks.due("2,000 CELLS of a function", Checks.define(yard, "F " + quotes(666, 2)), 0);
        Checks.due("CELLS", yard.count(1), 2000);
        Checks.due("1 CELL more", Checks.echoOutcome(yard, "(1)"), "fault 8 at 2");
        Checks.due("a quote more", Checks.evalOutcome(yard, "'A"), "fault 8 at 1");
        Checks.due("room(2000)", yard.room(2000), 2000);
        Checks.due("F in place of F without a CELL", Checks.define(yard, "F 1"), 0);
        Checks.due("CELLS", yard.count(1), 0);
        Checks.due("2,000 CELLS again", Checks.echo(yard, quotes(666, 2)), 0);
    }

    /** ROOM 0: no CELL at all, but ATOMS. */
    private static void noneAtAll() {
        ConsYard yard = new ConsYard();
        yard.room(0);
        Checks.due("()", Checks.evalOutcome(yard, "()"), "NIL");
        Checks.due("-5", Checks.evalOutcome(yard, "-5"), "-5");
        Checks.due("(A)", Checks.echoOutcome(yard, "(A)"), "fault 8 at 2");
        Checks.due("(A . B)", Checks.echoOutcome(yard, "(A . B)"), "fault 8 at 6");
        Checks.due("'A", Checks.evalOutcome(yard, "'A"), "fault 8 at 1");
        Checks.due("F CAR", Checks.define(yard, "F CAR"), 0);
        Checks.due("F (A)", Checks.define(yard, "F (A)"), 8);
        Checks.due("none was made", yard.count(4), 0);
        yard.room(1);
        Checks.due("(LIST) in 1", Checks.evalOutcome(yard, "(LIST)"), "NIL");
        Checks.due("(LIST) is let go of", Checks.echoOutcome(yard, "(A)"), "(A)");
        Checks.due("'A in 1", Checks.evalOutcome(yard, "'A"), "fault 8 at 1");
    }

    /** "as many as ROOM .. are REACHED, or more: FAULT 8". */
    private static void asManyAsRoomBesideFunctions() {
        for (int kept = 0; kept <= 6; kept++) {
            ConsYard yard = yardWith("F (" + "A ".repeat(kept) + ")");
            for (int room = kept; room <= kept + 5; room++) {
                yard.room(room);
                for (int cells = 0; cells <= 6; cells++) {
                    String list = "(" + "B ".repeat(cells) + ")";
                    Checks.due(kept + " and " + cells + " in " + room, Checks.echo(yard, list), kept + cells <= room ? 0 : 8);
                    Checks.due("its place", yard.place(), kept + cells <= room ? -1 : list.length() - 1);
                }
            }
        }
    }

    /** ROOTS: "all functions that are defined". */
    private static void functionsAreRoots() {
        ConsYard yard = yardWith("CAR (A (B C) . D)", "LESSP '(E)", "F (G)", "H 5");
        Checks.due("CELLS", yard.count(1), 4 + 3 + 1);
        for (int room = 8; room <= 30; room++) {
            yard.room(room);
            String rest = "(" + "X ".repeat(room - 8) + ")";
            Checks.due("the rest of ROOM " + room, Checks.echo(yard, rest), 0);
            Checks.due("one more", Checks.echo(yard, "(X " + rest.substring(1)), 8);
            Checks.due("CAR", yard.function(8) + Checks.page(yard), "13(A (B C) . D)");
            Checks.due("LESSP", yard.function(22) + Checks.page(yard), "11(QUOTE (E))");
        }
        Checks.due("F without its CELL", Checks.define(yard, "F 1"), 0);
        Checks.due("CELLS", yard.room(7), 7);
        Checks.define(yard, "LESSP 1");
        Checks.due("CELLS", yard.room(4), 4);
    }

    /** ROOTS: "what was read of this text so far and is not yet part of a list". */
    private static void whatWasReadIsARoot() {
        ConsYard yard = new ConsYard();
        // (A B) 2, 'C 2, (E F) 2, (D .. . G) 2, the list of these and H 4
        String text = "((A B) 'C (D (E F) . G) H)";
        int[] closing = {5, 8, 17, 22, 25};
        int[] needs = {2, 4, 6, 8, 12};
        for (int room = 0; room < 12; room++) {
            yard.room(room);
            int k = 0;
            while (needs[k] <= room) {
                k++;
            }
            Checks.due("in " + room, Checks.echoOutcome(yard, text), "fault 8 at " + closing[k]);
        }
        for (int room = 12; room < 60; room++) {
            yard.room(room);
            Checks.due("in " + room, Checks.echoOutcome(yard, text), "((A B) (QUOTE C) (D (E F) . G) H)");
        }
    }

    /** ROOTS: "X". */
    private static void xIsARoot() {
        needs(new ConsYard(), "(FUNCTION A)", 2 + 3, "(FUNARG A NIL)");
        needs(new ConsYard(), "(FUNCTION (A B C))", 5 + 3, "(FUNARG (A B C) NIL)");
        needs(new ConsYard(), "(FUNCTION A B C D)", 5 + 3, "(FUNARG A NIL)");
        // X is the whole text while its LABEL is applied
        needs(new ConsYard(), "((LABEL F LIST))", 4 + 2, "NIL");
        needs(new ConsYard(), "((LABEL F LIST G H))", 6 + 2, "NIL");
    }

    /** ROOTS: "ENV". */
    private static void envIsARoot() {
        ConsYard yard = yardWith("F (LAMBDA (X) (CONS 1 2))", "G (LAMBDA () (F (LIST 1 2 3)))");
        // F 7, G 9, ENV 2 and its VALUE 3, the new CELL
        needs(yard, "(G)", 16 + 5 + 1, "(1 . 2)");
        yard = yardWith("F (LAMBDA (X Y) (EVAL '(LIST 1 2 3) NIL))");
        // F 5, (EVAL ..) 3, the quote 2, (LIST ..) 4, the PAIRS 4; the LIST's 3 when ENV is NIL
        needs(yard, "(F 1 2)", 14 + 4, "(1 2 3)");
    }

    /** ROOTS: "the VALUES .. at hand". */
    private static void valuesAreRoots() {
        ConsYard yard = yardWith("F (LAMBDA () (LIST (LIST 1 2) (LIST 3 4) (LIST 5 6)))");
        // F 3 + 4 + 9, the VALUES 6, the LIST 3
        needs(yard, "(F)", 16 + 6 + 3, "((1 2) (3 4) (5 6))");
        yard = yardWith("F (LAMBDA () ((LAMBDA (A B C) B) (LIST 1 2) (LIST 3 4) (LIST 5 6)))");
        // F 3 + 4 + 9 and the inner LAMBDA 3 + 3, the VALUES 6, the PAIRS and ENV 6
        needs(yard, "(F)", 22 + 6 + 6, "(3 4)");
    }

    /** ROOTS: "the function at hand". */
    private static void theFunctionAtHandIsARoot() {
        // the LAMBDA 3 + 2 when X is 2 and the FRAME has gone; two PAIRS
        needs(new ConsYard(), "((LAMBDA (X Y) Y) 1 2)", 5 + 4, "2");
        // the LAMBDA 3 + 3 + 4; three PAIRS, then the LIST beside the PAIRS
        needs(new ConsYard(), "((LAMBDA (X Y Z) (LIST Z Y X)) 1 2 3)", 10 + 6, "(3 2 1)");
        // once the LAMBDA is at hand, the LABEL's own CELLS are let go of: the LAMBDA 3 + 3, the LABEL's PAIR 2, three PAIRS
        needs(new ConsYard(), "((LABEL F (LAMBDA (X Y Z) Z)) 1 2 3)", 6 + 2 + 6, "3");
    }

    /** ROOTS: "all that FRAMES have": a function's FRAME has f, its list, its VALUES and its ENV. */
    private static void framesOfFunctionsAreRoots() {
        // f 6, the list 1 + 4, the new LIST 3
        needs(new ConsYard(), "((LAMBDA (X) (CAR X)) (LIST 1 2 3))", 6 + 5 + 3, "1");
        // the list 1 + 4, what follows in it 3, the new LIST 4
        needs(new ConsYard(), "(CONS (LIST 1 2 3 4) '5)", 2 + 5 + 2 + 4, "((1 2 3 4) . 5)");
        ConsYard yard = yardWith("F (LAMBDA () (CAR (LIST (LIST 1 2) (ATOM (LIST 3 4 5 6 7 8)))))");
        // F 20, the VALUE (1 2) in a FRAME 2, the new LIST 6
        needs(yard, "(F)", 20 + 2 + 6, "(1 2)");
        yard = yardWith("F (LAMBDA (X) (LIST (EVAL '(ATOM (LIST 1 2 3 4 5 6)) NIL) X))", "G (LAMBDA () (F (LIST 7 8)))");
        // F 21, G 8, the ENV of LIST's FRAME 2 + 2, the new LIST 6
        needs(yard, "(G)", 29 + 4 + 6, "(NIL (7 8))");
    }

    /** ROOTS: "all that FRAMES have": COND's FRAME has its list and its ENV. */
    private static void framesOfCondAreRoots() {
        // the list 2 + 9 + 2, the new LIST 4
        needs(new ConsYard(), "(COND ((ATOM (LIST 1 2 3 4)) 5) (T 6))", 13 + 4, "6");
        ConsYard yard = yardWith("F (LAMBDA (X) (COND ((EVAL '(ATOM (LIST 1 2 3 4 5 6)) NIL) 1) (T X)))", "G (LAMBDA () (F (LIST 7 8)))");
        // F 25, G 8, the ENV of COND's FRAME 2 + 2, the new LIST 6
        needs(yard, "(G)", 33 + 4 + 6, "(7 8)");
    }

    /** ROOTS: "HEAD and TAIL of the CELL that is to be made; CELLS that the same act made already." */
    private static void cellsOfTheSameActAreRoots() {
        // one VALUE alone needs no more ROOM than the text
        for (int values = 2; values <= 10; values++) {
            String numbers = " 1 2 3 4 5 6 7 8 9 0".substring(0, 2 * values);
            String variables = " A B C D E F G H I J".substring(0, 2 * values);
            ConsYard yard = yardWith("F (LAMBDA () (LIST" + numbers + "))");
            needs(yard, "(F)", 3 + 1 + values + values, "(" + numbers.substring(1) + ")");
            yard = yardWith("F (LAMBDA (" + variables + ") " + variables.charAt(2 * values - 1) + ")");
            needs(yard, "(F" + numbers + ")", 3 + values + 2 * values, String.valueOf(numbers.charAt(2 * values - 1)));
        }
        ConsYard yard = yardWith("F (LAMBDA (X Y) (FUNCTION (A B)))");
        // F 5 + 4, ENV 4, the FUNARG 3
        needs(yard, "(F 1 2)", 9 + 4 + 3, "(FUNARG (A B) ((X . 1) (Y . 2)))");
        yard = yardWith("F (LAMBDA (X) (CONS 1 2))");
        // F 7, ENV 2, the CELL
        needs(yard, "(F 1)", 7 + 2 + 1, "(1 . 2)");
    }

    /** "(What isn't REACHED counts for nothing.)" */
    private static void whatIsNotReachedCountsForNothing() {
        ConsYard yard = new ConsYard();
        yard.room(5);
        String[] waste = {"(A B C D E)", "(A B C D E", "((A B) (C D) E)", "('A 'B", "(A . (B . (C . (D . (E . F)))))", "a", "((A B C D E F))"};
        for (String text : waste) {
            Checks.echo(yard, text);
            Checks.due("behind echo " + text, Checks.echoOutcome(yard, "(1 2 3 4 5)"), "(1 2 3 4 5)");
            Checks.eval(yard, text, 50);
            Checks.due("behind eval " + text, Checks.echoOutcome(yard, "(1 2 3 4 5)"), "(1 2 3 4 5)");
            Checks.define(yard, "F )" + text);
            Checks.define(yard, "F " + text + " %");
            Checks.due("behind define " + text, Checks.echoOutcome(yard, "(1 2 3 4 5)"), "(1 2 3 4 5)");
        }
        Checks.due("no function came", yard.room(5), 0);
        Checks.define(yard, "F (A B C D)");
        Checks.define(yard, "F 5");
        Checks.due("behind a function that was replaced", Checks.echoOutcome(yard, "(1 2 3 4 5)"), "(1 2 3 4 5)");
        ConsYard loop = yardWith("F (LAMBDA (N) (COND ((EQ N 0) 'END) (T (EVAL (LIST 'F (DIFFERENCE N 1)) NIL))))");
        // F 27, ENV 2, and the (F n) that LIST makes 2
        needs(loop, "(F 200)", 27 + 2 + 2, "END");
        Checks.due("made", loop.count(4) > 2000 ? 1 : 0, 1);
    }

    /** "(What isn't REACHED counts for nothing.)": wherever the machine ends, functions alone reach CELLS then. */
    private static void noFaultKeepsAnything() {
        String[] texts = {"((LAMBDA (X) X) (QUOTE))", "((LAMBDA (X) X) A)", "((LAMBDA (X) X) (COND))", "((LAMBDA (X) X) ('F))", "((LAMBDA (X) X) (CAR))",
            "((LAMBDA (X) X) (CAR 'A))", "((LAMBDA (S) (EVAL S (LIST (CONS 'S S)))) '(LIST (EVAL S (LIST (CONS 'S S)))))",
            "((LAMBDA (X Y) (LIST X (LIST Y (CONS X Y)))) '(A) '(B))", "(COND ((ATOM '(A B)) 1) ((ATOM '(C)) 2))", "((FUNARG (LAMBDA () (LIST X A)) ((X . (B C)))))"};
        int[] faults = {5, 6, 9, 10, 11, 13, 12, 0, 9, 6};
        for (int k = 0; k < texts.length; k++) {
            ConsYard yard = new ConsYard();
            yard.room(2000);
            Checks.due(texts[k], Checks.eval(yard, texts[k], 20000), faults[k]);
            Checks.due("it keeps no CELLS", yard.count(1), 0);
            int fuel = Math.min(60, yard.count(2));
            for (int less = 0; less < fuel; less++) {
                Checks.due(texts[k] + " with FUEL " + less, Checks.eval(yard, texts[k], less), 7);
                Checks.due("it keeps no CELLS", yard.count(1), 0);
            }
            yard.room(5);
            Checks.due("all ROOM is there", Checks.echoOutcome(yard, "(1 2 3 4 5)"), "(1 2 3 4 5)");
        }
        ConsYard yard = new ConsYard();
        for (int room = 0; room <= 20; room++) {
            yard.room(room);
            Checks.eval(yard, "((LAMBDA (X Y) (LIST X Y X Y X Y X Y)) 1 2)", 20000);
            Checks.due("in ROOM " + room + " it keeps no CELLS", yard.room(0), 0);
        }
    }

    /** REACHED are "those that are HEAD or TAIL of one that is REACHED", however far: 1,824 lists in one another. */
    private static void headsInHeads() {
        ConsYard yard = yardWith("V (LAMBDA (X) " + "(LIST ".repeat(32) + "X" + ")".repeat(33));
        String text = "(V ".repeat(57) + "1" + ")".repeat(57);
        String due = "(".repeat(1824) + "1" + ")".repeat(175);
        // V 4 + 64; in the last call but one ENV 2, the FRAME's list 1 + 2 * 56, and its own VALUE 56 * 32
        int room = 68 + 2 + 113 + 56 * 32;
        Checks.due("ROOM", room, 1975);
        yard.room(room);
        Checks.due("in " + room, Checks.evalOutcome(yard, text), due);
        Checks.due("and again", Checks.evalOutcome(yard, text), due);
        yard.room(room - 1);
        Checks.due("in one less", Checks.evalOutcome(yard, text), "fault 8 at -1");
        Checks.due("V", yard.count(1), 68);
    }

    /** REACHED are CELLS: one that is HEAD and TAIL, or in two functions' way, counts once. */
    private static void sharedCellsCountOnce() {
        ConsYard yard = yardWith("F (LAMBDA (X) (CONS X X))", "G (LAMBDA () (F (F (F (F (LIST 1 2))))))");
        // F 7, G 3 + 8 + 3; the LIST 2, the last ENV 2, the CONSES 4
        needs(yard, "(G)", 21 + 2 + 2 + 4, doubled(4));
    }

    private static String doubled(int times) {
        String inner = "1 2";
        for (int k = 0; k < times; k++) {
            inner = "(" + inner + ") " + inner;
        }
        return "(" + inner + ")";
    }

    /** FAULT 8 of the machine: the PAGE is empty, no place, FUEL and CELLS up to it are told. */
    private static void theMachinesFaultHasNoPlace() {
        ConsYard yard = yardWith("F (LAMBDA (A B C) C)");
        int made = yard.count(4);
        Checks.echo(yard, "OLD");
        for (int room = 10; room <= 11; room++) {
            yard.room(room);
            Checks.due("three PAIRS in " + room, Checks.eval(yard, "(F 1 2 3)", 100), 8);
            made += 4 + room - 6;
            Checks.due("all", Checks.state(yard), "counts 28 6 9 1 " + made + " 0 0 " + room + " 1, place -1, PAGE []");
        }
        yard.room(12);
        Checks.due("three PAIRS in 12", Checks.evalOutcome(yard, "(F 1 2 3)"), "3");
        Checks.due("all", Checks.state(yard), "counts 28 6 14 1 " + (made + 10) + " 1 0 12 1, place -1, PAGE [3]");
        ConsYard label = new ConsYard();
        label.room(4);
        Checks.due("a LABEL's PAIR", Checks.eval(label, "((LABEL F LIST))", 100), 8);
        Checks.due("made", label.count(4), 4);
        label.room(5);
        Checks.due("its CELL in ENV", Checks.eval(label, "((LABEL F LIST))", 100), 8);
        Checks.due("made", label.count(4), 4 + 4 + 1);
        for (int room = 2; room <= 4; room++) {
            ConsYard function = new ConsYard();
            function.room(room);
            Checks.due("a FUNARG in " + room, Checks.eval(function, "(FUNCTION A)", 100), 8);
            Checks.due("made", function.count(4), room);
        }
    }

    /** "CELLS: each has a HEAD and a TAIL, VALUES that never change." */
    private static void cellsNeverChange() {
        ConsYard yard = yardWith("F (LAMBDA (N L) (COND ((EQ N 0) L) (T (F (DIFFERENCE N 1) (CONS N L)))))");
        StringBuilder due = new StringBuilder("(");
        for (int n = 1; n <= 60; n++) {
            due.append(n).append(n < 60 ? " " : ")");
        }
        // the ENV keeps 4 CELLS for each N and the list one: 61 * 4 + 60, beside F
        int room = yard.count(1) + 61 * 4 + 60;
        for (int more = 0; more < 12; more++) {
            yard.room(room + more);
            Checks.due("in " + (room + more), Checks.evalOutcome(yard, "(F 60 NIL)"), due.toString());
        }
        yard.room(room - 1);
        Checks.due("in one less", Checks.evalOutcome(yard, "(F 60 NIL)"), "fault 8 at -1");
    }
}
