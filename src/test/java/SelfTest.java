/** An evaluator of the document's language, written in itself, runs within the house. */
final class SelfTest {
    private static final String[] EVALUATOR = {
        "EVCON (LAMBDA (C A) (COND ((EVA (CAR (CAR C)) A) (EVA (CAR (CDR (CAR C))) A)) (T (EVCON (CDR C) A))))",
        "EVLIS (LAMBDA (M A) (COND ((NULL M) NIL) (T (CONS (EVA (CAR M) A) (EVLIS (CDR M) A)))))",
        "PAIRLIS (LAMBDA (X Y A) (COND ((NULL X) A) (T (CONS (CONS (CAR X) (CAR Y)) (PAIRLIS (CDR X) (CDR Y) A)))))",
        "ASSOC (LAMBDA (X A) (COND ((EQ (CAR (CAR A)) X) (CDR (CAR A))) (T (ASSOC X (CDR A)))))",
        "EVA (LAMBDA (E A) (COND ((NULL E) NIL) ((EQ E T) T) ((NUMBERP E) E) ((ATOM E) (ASSOC E A)) "
            + "((EQ (CAR E) 'QUOTE) (CAR (CDR E))) ((EQ (CAR E) 'COND) (EVCON (CDR E) A)) "
            + "((EQ (CAR E) 'FUNCTION) (LIST 'FUNARG (CAR (CDR E)) A)) (T (APP (CAR E) (EVLIS (CDR E) A) A))))",
        "APP (LAMBDA (F X A) (COND ((ATOM F) (COND ((EQ F 'CAR) (CAR (CAR X))) ((EQ F 'CDR) (CDR (CAR X))) "
            + "((EQ F 'CONS) (CONS (CAR X) (CAR (CDR X)))) ((EQ F 'ATOM) (ATOM (CAR X))) ((EQ F 'EQ) (EQ (CAR X) (CAR (CDR X)))) "
            + "((EQ F 'NULL) (NULL (CAR X))) ((EQ F 'PLUS) (PLUS (CAR X) (CAR (CDR X)))) (T (APP (ASSOC F A) X A)))) "
            + "((EQ (CAR F) 'LAMBDA) (EVA (CAR (CDR (CDR F))) (PAIRLIS (CAR (CDR F)) X A))) "
            + "((EQ (CAR F) 'FUNARG) (APP (CAR (CDR F)) X (CAR (CDR (CDR F))))) "
            + "(T (APP (CAR (CDR (CDR F))) X (CONS (CONS (CAR (CDR F)) (CAR (CDR (CDR F)))) A)))))",
    };

    public static void main(String[] args) {
        ConsYard yard = new ConsYard();
        yard.room(2000);
        for (String function : EVALUATOR) {
            Checks.due("define " + function.substring(0, 5), Checks.define(yard, function), 0);
        }
        same(yard, "(CAR (QUOTE (A B)))", "A");
        same(yard, "((LAMBDA (X Y) (CONS Y X)) 1 (QUOTE (2)))", "((2) . 1)");
        same(yard, "((LABEL APPEND (LAMBDA (X Y) (COND ((NULL X) Y) (T (CONS (CAR X) (APPEND (CDR X) Y)))))) (QUOTE (A B)) (QUOTE (C)))",
                "(A B C)");
        same(yard, "((LAMBDA (F X) (F 3)) ((LAMBDA (X) (FUNCTION (LAMBDA (Y) (PLUS X Y)))) 1) 20)", "4");
        same(yard, "((LAMBDA (F X) (F 3)) (QUOTE (LAMBDA (Y) (PLUS X Y))) 20)", "23");
        Checks.finish("SelfTest");
    }

    private static void same(ConsYard yard, String text, String answer) {
        Checks.due(text, Checks.evalOutcome(yard, text), answer);
        Checks.due("by itself: " + text, Checks.evalOutcome(yard, "(EVA '" + text + " NIL)"), answer);
    }
}
