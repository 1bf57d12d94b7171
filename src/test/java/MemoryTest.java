/** MEMORY of the Terms: which CELLS are REACHED whenever one is to be made. */
final class MemoryTest {
    public static void main(String[] args) {
        texts();
        machine();
        ownFunctions();
        keepsNothingBetweenCalls();
        keepsOnlyWhatIsAtHand();
        takesBack();
        Checks.finish("MemoryTest");
    }

    private static String echoIn(int room, String text) {
        ConsYard yard = new ConsYard();
        yard.room(room);
        return Checks.echoOutcome(yard, text);
    }

    private static void texts() {
        Checks.due("3 in 3", echoIn(3, "(A B C)"), "(A B C)");
        Checks.due("3 in 2", echoIn(2, "(A B C)"), "fault 8 at 6");
        Checks.due("a dotted one needs no more", echoIn(2, "(A B . C)"), "(A B . C)");
        Checks.due("a dotted one in 1", echoIn(1, "(A B . C)"), "fault 8 at 8");
        Checks.due("a NIL needs none", echoIn(0, "()"), "NIL");
        Checks.due("the inner ) first", echoIn(1, "((A B) C)"), "fault 8 at 5");
        Checks.due("then the outer one", echoIn(3, "((A B) C)"), "fault 8 at 8");
        Checks.due("what was read is kept", echoIn(4, "((A B) C (D E))"), "fault 8 at 14");
        Checks.due("all in 7", echoIn(7, "((A B) C (D E))"), "((A B) C (D E))");
        Checks.due("all in 6", echoIn(6, "((A B) C (D E))"), "fault 8 at 14");
        Checks.due("a quote has 2", echoIn(2, "'A"), "(QUOTE A)");
        Checks.due("a quote in 1", echoIn(1, " 'ABC"), "fault 8 at 2");
        Checks.due("quotes in 3", echoIn(3, "'' A"), "fault 8 at 3");
        Checks.due("a quoted list", echoIn(3, "'(A B )"), "fault 8 at 6");
        Checks.due("a quoted list in 1", echoIn(1, "'(A B )"), "fault 8 at 6");
        Checks.due("a quote behind a dot", echoIn(1, "(A . 'B)"), "fault 8 at 6");
        Checks.due("its list", echoIn(2, "(A . 'B)"), "fault 8 at 7");
        Checks.due("its list in 3", echoIn(3, "(A . 'B)"), "(A QUOTE B)");
        ConsYard yard = new ConsYard();
        yard.room(2);
        Checks.echo(yard, "(A B C)");
        Checks.due("CELLS ahead of the FAULT are made", yard.count(4), 2);
    }

    /** Each text in the least ROOM that it needs, and in one less. */
    private static void machine() {
        needs("(CONS 1 2)", 3);
        needs("(LIST 1 2)", 3);
        // of ten CELLS of the text none is REACHED by then but 'C, as X: 2, and the list's own 3
        needs("(LIST 'A 'B 'C)", 10);
        needs("(FUNCTION A)", 5);
        needs("(LIST)", 1);
        needs("((LAMBDA (X) X) 1)", 6);
        // f has 13; the PAIRS and ENV have 20
        needs("((LAMBDA (A B C D E F G H I J) A) 0 1 2 3 4 5 6 7 8 9)", 33);
        // when LIST makes its CELLS, X is 9 and nothing keeps the text any more
        needs("(EVAL '(LIST 1 2 3 4 5 6 7 8 9) NIL)", 15);
        // X still keeps the text's 4
        needs("((LABEL F LIST))", 6);
    }

    private static void needs(String text, int room) {
        ConsYard yard = new ConsYard();
        yard.room(room);
        Checks.due(text + " in " + room, Checks.eval(yard, text, Checks.FUEL), 0);
        yard.room(room - 1);
        Checks.due(text + " in " + (room - 1), Checks.eval(yard, text, Checks.FUEL), 8);
    }

    private static void ownFunctions() {
        ConsYard yard = new ConsYard();
        Checks.define(yard, "F (LAMBDA (X) (CONS X X))");
        // 7 of F; the text's own 2 are let go, and a PAIR and its CELL in ENV take their place
        yard.room(9);
        Checks.due("no CELL for CONS", Checks.eval(yard, "(F 1)", Checks.FUEL), 8);
        Checks.due("its place", yard.place(), ConsYard.NONE);
        Checks.due("its FUEL", yard.count(2), 13);
        Checks.due("made", yard.count(4), 7 + 2 + 2);
        Checks.due("the PAGE is empty", yard.count(5), 0);
        yard.room(8);
        Checks.due("no CELL for ENV", Checks.eval(yard, "(F)", Checks.FUEL), 11);
        Checks.due("no ROOM for the text", Checks.evalOutcome(yard, "(F 1)"), "fault 8 at 4");
        yard.room(10);
        Checks.due("enough", Checks.evalOutcome(yard, "(F 1)"), "(1 . 1)");
        Checks.due("nothing stays", yard.count(1), 7);
    }

    private static void keepsNothingBetweenCalls() {
        ConsYard yard = new ConsYard();
        Checks.echo(yard, "((A B) (C D");
        Checks.due("of half a text", yard.count(1), 0);
        Checks.eval(yard, "'(A B C)", Checks.FUEL);
        Checks.due("of an answer", yard.count(1), 0);
        Checks.eval(yard, "((LAMBDA (X Y) (CAR 5)) '(A B) '(C D))", Checks.FUEL);
        Checks.due("of a FAULT", yard.count(1), 0);
        Checks.eval(yard, "(LIST '(A B) (LIST '(A B) '(C D)))", 6);
        Checks.due("of FRAMES without FUEL", yard.count(1), 0);
        Checks.eval(yard, "(CAR '(A B) '(C D))", Checks.FUEL);
        Checks.due("of VALUES", yard.count(1), 0);
        Checks.eval(yard, "((LABEL A B C) 'D)", Checks.FUEL);
        Checks.due("of a function", yard.count(1), 0);
        yard.room(7);
        Checks.due("nor in the next text", Checks.echoOutcome(yard, "(A B C D E F G)"), "(A B C D E F G)");
        Checks.define(yard, "F (A)");
        Checks.due("only a function is kept", yard.count(1), 1);
    }

    /** VALUES and a function are no ROOTS any more, once they have been applied. */
    private static void keepsOnlyWhatIsAtHand() {
        ConsYard yard = new ConsYard();
        Checks.define(yard, "F (LAMBDA (X) (LIST (CAR '(A B C)) (FUNCTION A)))");
        Checks.due("CELLS of F", yard.count(1), 16);
        // these, ENV's 2, the FUNARG's 3 and the LIST's 2: the text has been let go of
        yard.room(23);
        Checks.due("enough", Checks.evalOutcome(yard, "(F 1)"), "(A (FUNARG A ((X . 1))))");
        yard.room(22);
        Checks.due("one less", Checks.eval(yard, "(F 1)", Checks.FUEL), 8);
        Checks.define(yard, "F 1");
        // 11 to read; at FUNCTION X has 2, ENV has 3 and the FUNARG needs 3: with the LAMBDA's 4 it would be one too many
        String text = "((LAMBDA (X) (FUNCTION A)) '(B))";
        yard.room(11);
        Checks.due("the LAMBDA is let go of", Checks.evalOutcome(yard, text), "(FUNARG A ((X B)))");
        yard.room(10);
        Checks.due("one less", Checks.evalOutcome(yard, text), "fault 8 at 31");
    }

    private static void takesBack() {
        ConsYard yard = new ConsYard();
        Checks.define(yard, "COUNT (LAMBDA (N) (COND ((EQ N 0) 'DONE) (T (COUNT (DIFFERENCE N 1)))))");
        Checks.due("CELLS", yard.count(1), 21);
        Checks.define(yard, "WASTE (LAMBDA (N) (CAR (CONS N (LIST N N N))))");
        yard.room(80);
        for (int k = 0; k < 60; k++) {
            Checks.due("waste", Checks.evalOutcome(yard, "(LIST (WASTE 1) (WASTE 2))"), "(1 2)");
        }
        Checks.due("made more than there ever is ROOM for", yard.count(4) > 1000 ? 1 : 0, 1);
        Checks.due("ENV keeps each N", Checks.eval(yard, "(COUNT 40)", Checks.FUEL), 8);
        Checks.define(yard, "LOOP (LAMBDA (N) (COND ((EQ N 0) 'DONE) (T (EVAL (LIST 'LOOP (DIFFERENCE N 1)) NIL))))");
        yard.room(100);
        Checks.due("EVAL lets go of ENV", Checks.evalOutcome(yard, "(LOOP 300)"), "DONE");
        Checks.due("FRAMES", yard.count(3), 3);
        doublesWithoutEnd();
    }

    /** A shared CELL counts once, however long its PRINTED text would be. */
    private static void doublesWithoutEnd() {
        ConsYard yard = new ConsYard();
        Checks.define(yard, "D (LAMBDA (X N) (COND ((EQ N 0) X) (T (D (CONS X X) (DIFFERENCE N 1)))))");
        Checks.due("doubled", Checks.eval(yard, "(D 'A 40)", Checks.FUEL), 0);
        Checks.due("cut", yard.count(5), 2000);
        Checks.due("forty open", Checks.page(yard).substring(0, 46), "(".repeat(40) + "A . A)");
        Checks.define(yard, "N (LAMBDA (X N) (COND ((EQ N 0) X) (T (N (CONS X NIL) (DIFFERENCE N 1)))))");
        Checks.due("nested", Checks.evalOutcome(yard, "(N NIL 120)"), "(".repeat(120) + "NIL" + ")".repeat(120));
    }
}
