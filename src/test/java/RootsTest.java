/**
 * MEMORY, root by root, at each act of the machine that makes CELLS: a list of k CELLS hangs on one
 * root alone while the act goes on, and the ROOM that is needed is reckoned by hand. All code is in
 * functions, so that what is needed beside these is what the roots hold and what the act makes.
 */
final class RootsTest {
    private static final int MOST = 8;
    private static final String[] ACTS = {"(FUNCTION A)", "((LAMBDA (P Q) P) 1 2)", "((LABEL P LIST))", "(CONS 1 2)", "(LIST 1 2 3)"};
    private static final int[] MADE = {3, 4, 2, 1, 3};
    // a VALUE that each act has beside it, for else the list's own making would need as much
    private static final String BESIDE = "(LIST 1 2 3 4 5)";
    private static final int BESIDE_CELLS = 5;

    public static void main(String[] args) {
        for (int act = 0; act < ACTS.length; act++) {
            for (int k = 1; k <= MOST; k++) {
                functions(act, k);
                env(act, k);
                framesOfFunctions(act, k);
                framesOfCond(act, k);
                whatIsLetGoOf(act, k);
            }
        }
        for (int k = 1; k <= MOST; k++) {
            x(k);
            valuesAtHand(k);
            functionAtHand(k);
            whatWasRead(k);
            earlierPartsOfTheText(k);
        }
        Checks.finish("RootsTest");
    }

    private static ConsYard yard(int k, String... functions) {
        ConsYard yard = new ConsYard();
        yard.room(2000);
        Checks.due("MK", Checks.define(yard, "MK (LAMBDA () (LIST" + " 7".repeat(k) + "))"), 0);
        for (String function : functions) {
            Checks.due("define " + function, Checks.define(yard, function), 0);
        }
        return yard;
    }

    /** ACT is a function without variables that answers T. */
    private static String act(int act) {
        return "ACT (LAMBDA () (ATOM (EQ " + BESIDE + " " + ACTS[act] + ")))";
    }

    private static int needed(int act) {
        return BESIDE_CELLS + MADE[act];
    }

    /** So much ROOM beside the functions is enough, and one less is a FAULT of the machine. */
    private static void needs(String what, ConsYard yard, String text, int room) {
        int functions = yard.count(1);
        yard.room(functions + room);
        Checks.due(what + " in " + room, Checks.eval(yard, text, Checks.FUEL), 0);
        yard.room(functions + room - 1);
        Checks.due(what + " in one less than " + room, Checks.evalOutcome(yard, text), "fault 8 at -1");
    }

    /** "all functions that are defined". */
    private static void functions(int act, int k) {
        ConsYard yard = yard(k, act(act));
        int without = yard.count(1);
        needs(ACTS[act] + " alone", yard, "(ACT)", needed(act));
        yard.room(2000);
        Checks.define(yard, "K (" + "7 ".repeat(k) + ")");
        Checks.due("K", yard.count(1), without + k);
        needs(ACTS[act] + " beside K of " + k, yard, "(ACT)", needed(act));
    }

    /** "ENV": made by a LAMBDA, and given to EVAL. */
    private static void env(int act, int k) {
        ConsYard yard = yard(k, act(act), "G (LAMBDA (V) (ACT))", "H (LAMBDA () (G (MK)))");
        needs(ACTS[act] + " with ENV " + k, yard, "(H)", 2 + k + needed(act));
        yard = yard(k, act(act), "H (LAMBDA () (EVAL '(ACT) (LIST (CONS 'V (MK)))))");
        needs(ACTS[act] + " with EVAL's ENV " + k, yard, "(H)", 2 + k + needed(act));
        yard = yard(k, act(act), "H (LAMBDA () (EVAL (LIST (LIST 'FUNARG 'ACT (MK))) NIL))");
        // the FUNARG's own three CELLS are let go of when the body becomes X
        needs(ACTS[act] + " with a FUNARG's ENV " + k, yard, "(H)", k + needed(act));
    }

    /** "all that FRAMES have": VALUES, the list, f, ENV. */
    private static void framesOfFunctions(int act, int k) {
        ConsYard yard = yard(k, act(act), "H (LAMBDA () (EQ (MK) (ACT)))");
        needs(ACTS[act] + " with a FRAME's VALUE " + k, yard, "(H)", k + needed(act));
        yard = yard(k, act(act), "H (LAMBDA () (EVAL (LIST 'EQ '(ACT) (LIST 'QUOTE (MK))) NIL))");
        needs(ACTS[act] + " with a FRAME's list " + k, yard, "(H)", 2 + 2 + k + needed(act));
        yard = yard(k, act(act), "H (LAMBDA () (EVAL (LIST (LIST 'LAMBDA '(P) (LIST 'QUOTE (MK))) '(ACT)) NIL))");
        needs(ACTS[act] + " with a FRAME's f " + k, yard, "(H)", 3 + 2 + k + 1 + needed(act));
        yard = yard(k, act(act), "G (LAMBDA (V) (EQ (EVAL '(ACT) NIL) V))", "H (LAMBDA () (G (MK)))");
        needs(ACTS[act] + " with a FRAME's ENV " + k, yard, "(H)", 2 + k + needed(act));
    }

    /** "all that FRAMES have": COND's list, ENV. */
    private static void framesOfCond(int act, int k) {
        ConsYard yard = yard(k, act(act), "H (LAMBDA () (EVAL (LIST 'COND (LIST '(ACT) (LIST 'QUOTE (MK)))) NIL))");
        needs(ACTS[act] + " with COND's list " + k, yard, "(H)", 1 + 2 + 2 + k + needed(act));
        yard = yard(k, act(act), "G (LAMBDA (V) (COND ((EVAL '(ACT) NIL) V)))", "H (LAMBDA () (G (MK)))");
        needs(ACTS[act] + " with COND's ENV " + k, yard, "(H)", 2 + k + needed(act));
    }

    /** "(What isn't REACHED counts for nothing.)" The list was there, and no root has it any more. */
    private static void whatIsLetGoOf(int act, int k) {
        int room = Math.max(2 + k, needed(act));
        ConsYard yard = yard(k, act(act), "H (LAMBDA () (EQ (CAR (MK)) (ACT)))");
        needs(ACTS[act] + " behind a VALUE", yard, "(H)", Math.max(k, needed(act)));
        yard = yard(k, act(act), "G (LAMBDA (V) (EVAL '(ACT) NIL))", "H (LAMBDA () (G (MK)))");
        needs(ACTS[act] + " behind VALUES and ENV", yard, "(H)", room);
        yard = yard(k, act(act), "H (LAMBDA () (EQ 1 (COND ((MK) (ACT)))))");
        needs(ACTS[act] + " behind COND's VALUE", yard, "(H)", Math.max(k, needed(act)));
    }

    /**
     * "X": the text at FUNCTION and at a LABEL, the last that was EVALUATED at LAMBDA and LIST. At CONS no
     * ROOM tells: its one CELL never needs more than the FRAME with both of its arguments did.
     */
    private static void x(int k) {
        needs("FUNCTION's own X", new ConsYard(), "(FUNCTION A" + " B".repeat(k) + ")", 2 + k + 3);
        needs("LABEL's own X", new ConsYard(), "((LABEL P LIST" + " B".repeat(k) + "))", 4 + k + 2);
        ConsYard yard = yard(k, "F (LAMBDA (A B C D E) E)", "H (LAMBDA () (EVAL (LIST 'F 1 2 3 4 (CONS 'QUOTE (MK))) NIL))");
        needs("X at LAMBDA " + k, yard, "(H)", 1 + k + 10);
        yard = yard(k, "FOUR (LAMBDA () (LIST 1 2 3 4))", "H (LAMBDA () (EVAL (LIST 'LIST '(FOUR) '(FOUR) 3 4 (CONS 'QUOTE (MK))) NIL))");
        needs("X at LIST " + k, yard, "(H)", 1 + k + 8 + 5);
    }

    /** "the VALUES .. at hand". */
    private static void valuesAtHand(int k) {
        needs("LAMBDA's VALUES " + k, yard(k, "H (LAMBDA () ((LAMBDA (P Q) P) (MK) (MK)))"), "(H)", 2 * k + 4);
        needs("LABEL's VALUES " + k, yard(k, "H (LAMBDA () ((LABEL P CAR) (MK)))"), "(H)", k + 2);
        needs("CONS's VALUES " + k, yard(k, "H (LAMBDA () (CONS (MK) (MK)))"), "(H)", 2 * k + 1);
        needs("LIST's VALUES " + k, yard(k, "H (LAMBDA () (LIST (MK) (MK) (MK)))"), "(H)", 3 * k + 3);
    }

    /** "the function at hand". */
    private static void functionAtHand(int k) {
        ConsYard yard = yard(k, "H (LAMBDA () (EVAL (LIST (LIST 'LAMBDA '(P Q) (LIST 'QUOTE (MK))) 1 2) NIL))");
        needs("a LAMBDA at hand " + k, yard, "(H)", 3 + 2 + k + 4);
        yard = yard(k, "TWO (LAMBDA () (LIST 8 9))", "H (LAMBDA () (EVAL (LIST (CONS 'LABEL (CONS 'P (CONS 'CAR (MK)))) '(TWO)) NIL))");
        needs("a LABEL at hand " + k, yard, "(H)", 3 + k + 2 + 2);
    }

    /** "what was read of this text so far and is not yet part of a list", at a ) and at a ' S, beside functions. */
    private static void whatWasRead(int k) {
        String list = "(" + "A ".repeat(k) + ")";
        ConsYard yard = yard(k, "F " + list);
        int functions = yard.count(1);
        String[] texts = {"(" + list + "(B C)", "((" + list + "(B C)", "(" + list + " 'B", "((" + list + " ''B", "(D . (" + list + " 'B"};
        int[] cells = {2, 2, 2, 4, 2};
        for (int row = 0; row < texts.length; row++) {
            int last = texts[row].length() - 1;
            yard.room(functions + k + cells[row]);
            Checks.due(texts[row], Checks.echoOutcome(yard, texts[row]), "fault 1 at " + texts[row].length());
            Checks.due("F " + texts[row], Checks.define(yard, "F " + texts[row]) + " " + yard.place(), "1 " + (texts[row].length() + 2));
            yard.room(functions + k + cells[row] - 1);
            Checks.due(texts[row] + " in one less", Checks.echoOutcome(yard, texts[row]), "fault 8 at " + last);
            Checks.due("F " + texts[row] + " in one less", Checks.define(yard, "F " + texts[row]) + " " + yard.place(), "8 " + (last + 2));
        }
        // F has its old function till the new one has been read
        yard.room(functions + k);
        Checks.due("F again", Checks.define(yard, "F " + list), 0);
        yard.room(functions + k - 1);
        Checks.due("F again in one less", Checks.define(yard, "F " + list), 8);
    }

    /** The machine "begins with the S that was read as X": what X and the FRAMES have left behind is let go of. */
    private static void earlierPartsOfTheText(int k) {
        ConsYard yard = yard(k, act(4));
        String text = "(EQ '(" + "A ".repeat(k) + ") (ACT))";
        // the VALUE k and the FRAME's list 1 + 1: the text's first CELL, its second and the quote have gone
        needs(text, yard, text, k + 2 + needed(4));
        // nothing but the FRAME's list is left of these, so that the text itself needs the most
        text = "(EQ (CAR '(" + "1 ".repeat(k + 1) + ")) (ACT))";
        int functions = yard.room(2000);
        yard.room(functions + k + 9);
        Checks.due(text, Checks.evalOutcome(yard, text), "NIL");
        yard.room(functions + k + 8);
        Checks.due(text + " in one less", Checks.evalOutcome(yard, text), "fault 8 at " + (text.length() - 1));
    }
}
