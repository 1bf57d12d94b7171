/** The machine of the Terms: what each kind of S answers, the FUEL it takes and the FRAMES it needs. */
final class MachineTest {
    public static void main(String[] args) {
        evaluates();
        tellsFaults();
        goesOnWithOwnFunctions();
        endsAtEachFuel();
        endsAtTwoHundredFrames();
        takesTenValues();
        Checks.finish("MachineTest");
    }

    /** Each row: a text, its answer, FUEL, FRAMES. */
    private static void check(String[][] rows) {
        for (String[] row : rows) {
            ConsYard yard = new ConsYard();
            String got = Checks.evalOutcome(yard, row[0]);
            Checks.due("eval " + row[0], got + ", " + yard.count(2) + ", " + yard.count(3), row[1] + ", " + row[2] + ", " + row[3]);
        }
    }

    private static void evaluates() {
        check(new String[][] {
            {"5", "5", "2", "0"}, {"NIL", "NIL", "2", "0"}, {"T", "T", "2", "0"}, {"()", "NIL", "2", "0"}, {"'A", "A", "2", "0"},
            {"(QUOTE A B)", "A", "2", "0"}, {"(QUOTE A . B)", "A", "2", "0"}, {"(LIST)", "NIL", "3", "0"},
            {"(LIST 1)", "(1)", "5", "1"}, {"(LIST 1 2 3)", "(1 2 3)", "9", "1"}, {"(LIST (LIST 1) 2)", "((1) 2)", "10", "2"},
            {"(CAR '(A B))", "A", "5", "1"}, {"(CDR '(A B))", "(B)", "5", "1"}, {"(CONS 1 2)", "(1 . 2)", "7", "1"},
            {"(ATOM 'A)", "T", "5", "1"}, {"(ATOM 5)", "T", "5", "1"}, {"(ATOM NIL)", "T", "5", "1"}, {"(ATOM '(A))", "NIL", "5", "1"},
            {"(NULL NIL)", "T", "5", "1"}, {"(NULL 0)", "NIL", "5", "1"}, {"(NULL '(NIL))", "NIL", "5", "1"},
            {"(NUMBERP 0)", "T", "5", "1"}, {"(NUMBERP 'A)", "NIL", "5", "1"}, {"(NUMBERP '(1))", "NIL", "5", "1"},
            {"(EQ 'A 'A)", "T", "7", "1"}, {"(EQ 'A 'B)", "NIL", "7", "1"}, {"(EQ 1000000 1000000)", "T", "7", "1"},
            {"(EQ 0 NIL)", "NIL", "7", "1"}, {"(EQ 1 T)", "NIL", "7", "1"}, {"(EQ '(A) '(A))", "NIL", "7", "1"},
            {"((LAMBDA (X) (EQ X X)) '(A))", "NIL", "13", "1"}, {"((LAMBDA (X) (EQ X X)) 'A)", "T", "13", "1"},
            {"(EVAL ''A NIL)", "A", "8", "1"},
            {"(EVAL 'X '((X . 5)))", "5", "9", "1"}, {"(EVAL 'X '((Y . 4) (X . 5) (X . 6)))", "5", "10", "1"},
            {"(EVAL 'X '((1 . 4) ((X) . 3) (X . 5)))", "5", "11", "1"}, {"(EVAL 5 6)", "5", "8", "1"}, {"(EVAL '(LIST 1) 'A)", "(1)", "11", "1"},
            {"(COND (T 1))", "1", "5", "1"}, {"(COND (NIL 1) (T 2))", "2", "7", "1"}, {"(COND (0 1))", "1", "5", "1"},
            {"(COND ('(NIL) 'A B))", "A", "5", "1"}, {"(COND (T . ('A . B)) . C)", "A", "5", "1"},
            {"(COND ((NULL 1) 1) ((NULL NIL) 2))", "2", "13", "2"},
            {"((LAMBDA () 7))", "7", "4", "0"}, {"((LAMBDA (X) X) 1)", "1", "7", "1"}, {"((LAMBDA (X Y) X) 1 2)", "1", "9", "1"},
            {"((LAMBDA (X Y) Y) 1 2)", "2", "10", "1"}, {"((LAMBDA (X X) X) 1 2)", "1", "9", "1"},
            {"((LAMBDA (X Y) (EVAL 'Z '((Z . 9)))) 1 2)", "9", "15", "1"},
            {"((LAMBDA (CAR) (CAR CAR)) '(A))", "A", "10", "1"}, {"((LAMBDA (F) (F '(A))) 'CAR)", "A", "11", "1"},
            {"((LAMBDA (G F) (F '(A))) 1 'CAR)", "A", "14", "1"},
            {"((LABEL F (LAMBDA (X) (COND ((ATOM X) X) (T (F (CAR X)))))) '((A)))", "A", "56", "2"},
            {"((LABEL F CAR) '(A))", "A", "6", "1"}, {"((FUNARG (LAMBDA (Y) X) ((X . 5))) 1)", "5", "9", "1"},
            {"((FUNARG CAR) '(A))", "fault 5 at -1", "4", "1"}, {"((FUNARG CAR NIL 7 . 8) '(A))", "A", "6", "1"},
            {"(FUNCTION CAR)", "(FUNARG CAR NIL)", "2", "0"}, {"(FUNCTION A . B)", "(FUNARG A NIL)", "2", "0"},
            {"((LAMBDA (X) (FUNCTION (LAMBDA (Y) X))) 1)", "(FUNARG (LAMBDA (Y) X) ((X . 1)))", "6", "1"},
            {"((LAMBDA (F X) (F 3)) ((LAMBDA (X) (FUNCTION (LAMBDA (Y) (LIST X Y)))) 1) 2)", "(1 3)", "27", "2"},
            {"((LAMBDA (F X) (F 3)) '(LAMBDA (Y) (LIST X Y)) 2)", "(2 3)", "23", "1"},
            {"((LAMBDA (X) ((LAMBDA (F) ((LAMBDA (X) (F)) 2)) '(LAMBDA () X))) 1)", "2", "20", "1"},
            {"(PLUS 2 3)", "5", "7", "1"}, {"(PLUS 2147483647 1)", "-2147483648", "7", "1"}, {"(DIFFERENCE 2 3)", "-1", "7", "1"},
            {"(DIFFERENCE -2147483648 1)", "2147483647", "7", "1"}, {"(TIMES -4 3)", "-12", "7", "1"},
            {"(TIMES 65536 65536)", "0", "7", "1"}, {"(TIMES 2147483647 2)", "-2", "7", "1"},
            {"(QUOTIENT 7 2)", "3", "7", "1"}, {"(QUOTIENT -7 2)", "-3", "7", "1"}, {"(QUOTIENT 7 -2)", "-3", "7", "1"},
            {"(QUOTIENT -2147483648 -1)", "-2147483648", "7", "1"}, {"(REMAINDER 7 2)", "1", "7", "1"},
            {"(REMAINDER -7 2)", "-1", "7", "1"}, {"(REMAINDER 7 -2)", "1", "7", "1"}, {"(REMAINDER -2147483648 -1)", "0", "7", "1"},
            {"(LESSP 1 2)", "T", "7", "1"}, {"(LESSP 2 2)", "NIL", "7", "1"}, {"(LESSP 3 2)", "NIL", "7", "1"},
            {"(LESSP -2147483648 2147483647)", "T", "7", "1"},
            {"((EVAL 'CAR NIL) '(A))", "fault 10 at -1", "4", "1"},
        });
    }

    private static void tellsFaults() {
        check(new String[][] {
            {"A", "fault 6 at -1", "1", "0"}, {"CAR", "fault 6 at -1", "1", "0"}, {"QUOTE", "fault 6 at -1", "1", "0"},
            {"((LAMBDA (X) Y) 1)", "fault 6 at -1", "6", "1"}, {"(EVAL 'X '((Y . 1) (Z . 2)))", "fault 6 at -1", "9", "1"},
            {"(EVAL 'X '((Y . 1) . Z))", "fault 5 at -1", "8", "1"}, {"(EVAL 'X 'Y)", "fault 5 at -1", "7", "1"},
            {"(EVAL 'X 5)", "fault 5 at -1", "7", "1"}, {"(EVAL 'X '(Y (X . 1)))", "fault 5 at -1", "8", "1"},
            {"(EVAL 'X '((X . 1) Y))", "1", "9", "1"}, {"(EVAL 'X '(NIL))", "fault 5 at -1", "8", "1"},
            {"(EVAL '(F) '(5))", "fault 5 at -1", "9", "1"}, {"(EVAL '(F) 'T)", "fault 5 at -1", "8", "1"},
            {"(EVAL '(NIL) '((NIL . LIST)))", "NIL", "11", "1"}, {"(EVAL '(LAMBDA) '((LAMBDA . LIST)))", "NIL", "11", "1"},
            {"(QUOTE)", "fault 5 at -1", "1", "0"}, {"(QUOTE . A)", "fault 5 at -1", "1", "0"},
            {"(FUNCTION)", "fault 5 at -1", "1", "0"}, {"(FUNCTION . A)", "fault 5 at -1", "1", "0"},
            {"(COND)", "fault 9 at -1", "1", "0"}, {"(COND . A)", "fault 9 at -1", "1", "0"}, {"(COND A)", "fault 5 at -1", "1", "1"},
            {"(COND NIL)", "fault 5 at -1", "1", "1"}, {"(COND (T))", "fault 5 at -1", "3", "1"}, {"(COND (T . A))", "fault 5 at -1", "3", "1"},
            {"(COND (NIL 1))", "fault 9 at -1", "3", "1"}, {"(COND (NIL 1) . A)", "fault 9 at -1", "3", "1"},
            {"(COND (NIL) (NIL))", "fault 9 at -1", "5", "1"}, {"(COND (NIL 1) A)", "fault 5 at -1", "3", "1"},
            {"(LIST . A)", "fault 5 at -1", "1", "0"}, {"(LIST 1 . A)", "fault 5 at -1", "3", "1"}, {"(LIST 1 . 2)", "fault 5 at -1", "3", "1"},
            {"(F)", "fault 10 at -1", "2", "0"}, {"(F 1)", "fault 10 at -1", "4", "1"}, {"(F X)", "fault 6 at -1", "2", "1"},
            {"(NIL)", "fault 10 at -1", "2", "0"}, {"(T)", "fault 10 at -1", "2", "0"}, {"(LAMBDA)", "fault 10 at -1", "2", "0"},
            {"(FUNARG)", "fault 10 at -1", "2", "0"}, {"(5)", "fault 10 at -1", "2", "0"}, {"((CAR) 1)", "fault 10 at -1", "4", "1"},
            {"((5))", "fault 10 at -1", "2", "0"}, {"(((LAMBDA () 1)))", "fault 10 at -1", "2", "0"}, {"('CAR 1)", "fault 10 at -1", "4", "1"},
            {"((LAMBDA (F) (F)) 5)", "fault 10 at -1", "8", "1"}, {"((LAMBDA (F) (F)) 'F)", "fault 7 at -1", "20000", "1"},
            {"((LAMBDA) 1)", "fault 5 at -1", "4", "1"}, {"((LAMBDA (X)) 1)", "fault 5 at -1", "4", "1"},
            {"((LAMBDA (X) . X) 1)", "fault 5 at -1", "4", "1"}, {"((LAMBDA X X) 1)", "fault 5 at -1", "4", "1"},
            {"((LAMBDA (X . Y) X) 1)", "fault 5 at -1", "4", "1"}, {"((LAMBDA (1) 1) 1)", "fault 5 at -1", "4", "1"},
            {"((LAMBDA (NIL) 1) 1)", "fault 5 at -1", "4", "1"}, {"((LAMBDA (T) 1) 1)", "fault 5 at -1", "4", "1"},
            {"((LAMBDA ((X)) 1) 1)", "fault 5 at -1", "4", "1"}, {"((LAMBDA (X Y) X) 1)", "fault 11 at -1", "4", "1"},
            {"((LAMBDA (X) X) 1 2)", "fault 11 at -1", "6", "1"}, {"((LAMBDA () 1) 2)", "fault 11 at -1", "4", "1"},
            {"((LAMBDA (X) 1))", "fault 11 at -1", "2", "0"}, {"((LAMBDA (X Y T) X) 1)", "fault 5 at -1", "4", "1"},
            {"((LAMBDA (X Y . Z) X) 1)", "fault 5 at -1", "4", "1"}, {"((LAMBDA (X Y)) 1)", "fault 5 at -1", "4", "1"},
            {"((LAMBDA (A B C D E F G H I J K L) X) 1)", "fault 11 at -1", "4", "1"},
            {"((LAMBDA (A B C D E F G H I J K T) X) 1)", "fault 5 at -1", "4", "1"},
            {"((LAMBDA NIL 3))", "3", "4", "0"}, {"((LAMBDA (QUOTE) QUOTE) 3)", "3", "7", "1"},
            {"((LABEL) 1)", "fault 5 at -1", "4", "1"}, {"((LABEL F) 1)", "fault 5 at -1", "4", "1"},
            {"((LABEL NIL CAR) 1)", "fault 5 at -1", "4", "1"}, {"((LABEL T CAR) 1)", "fault 5 at -1", "4", "1"},
            {"((LABEL 5 CAR) 1)", "fault 5 at -1", "4", "1"}, {"((LABEL (F) CAR) 1)", "fault 5 at -1", "4", "1"},
            {"((LABEL F 5) 1)", "fault 10 at -1", "5", "1"}, {"((FUNARG) 1)", "fault 5 at -1", "4", "1"},
            {"((FUNARG F) 1)", "fault 5 at -1", "4", "1"}, {"((FUNARG F 5) 1)", "fault 5 at -1", "5", "1"},
            {"((FUNARG F NIL) 1)", "fault 10 at -1", "5", "1"}, {"((FUNARG CAR 5) '(1))", "1", "6", "1"},
            {"(CAR)", "fault 11 at -1", "2", "0"}, {"(CAR 1 2)", "fault 11 at -1", "6", "1"}, {"(CDR)", "fault 11 at -1", "2", "0"},
            {"(CONS 1)", "fault 11 at -1", "4", "1"}, {"(CONS 1 2 3)", "fault 11 at -1", "8", "1"}, {"(ATOM)", "fault 11 at -1", "2", "0"},
            {"(ATOM 1 2)", "fault 11 at -1", "6", "1"}, {"(EQ 1)", "fault 11 at -1", "4", "1"}, {"(EQ 1 2 3)", "fault 11 at -1", "8", "1"},
            {"(NULL)", "fault 11 at -1", "2", "0"}, {"(NULL 1 2)", "fault 11 at -1", "6", "1"}, {"(EVAL 1)", "fault 11 at -1", "4", "1"},
            {"(EVAL 1 NIL 3)", "fault 11 at -1", "8", "1"}, {"(NUMBERP)", "fault 11 at -1", "2", "0"}, {"(NUMBERP 1 2)", "fault 11 at -1", "6", "1"},
            {"(PLUS 1)", "fault 11 at -1", "4", "1"}, {"(PLUS 1 2 3)", "fault 11 at -1", "8", "1"}, {"(DIFFERENCE 1)", "fault 11 at -1", "4", "1"},
            {"(TIMES 'A)", "fault 11 at -1", "4", "1"}, {"(QUOTIENT 0)", "fault 11 at -1", "4", "1"}, {"(REMAINDER)", "fault 11 at -1", "2", "0"},
            {"(LESSP 1)", "fault 11 at -1", "4", "1"}, {"(LESSP 1 2 3)", "fault 11 at -1", "8", "1"},
            {"(CAR NIL)", "fault 13 at -1", "4", "1"}, {"(CAR 'A)", "fault 13 at -1", "4", "1"}, {"(CAR 5)", "fault 13 at -1", "4", "1"},
            {"(CDR NIL)", "fault 13 at -1", "4", "1"}, {"(CDR 5)", "fault 13 at -1", "4", "1"}, {"(PLUS 1 'A)", "fault 13 at -1", "6", "1"},
            {"(PLUS NIL 1)", "fault 13 at -1", "6", "1"}, {"(DIFFERENCE '(1) 1)", "fault 13 at -1", "6", "1"},
            {"(TIMES 1 T)", "fault 13 at -1", "6", "1"}, {"(QUOTIENT 1 0)", "fault 13 at -1", "6", "1"},
            {"(QUOTIENT 'A 1)", "fault 13 at -1", "6", "1"}, {"(REMAINDER 1 0)", "fault 13 at -1", "6", "1"},
            {"(REMAINDER 1 'A)", "fault 13 at -1", "6", "1"}, {"(LESSP 'A 'B)", "fault 13 at -1", "6", "1"},
            {"(LESSP 1 NIL)", "fault 13 at -1", "6", "1"},
        });
    }

    private static void goesOnWithOwnFunctions() {
        ConsYard yard = new ConsYard();
        Checks.define(yard, "APPEND (LAMBDA (X Y) (COND ((NULL X) Y) (T (CONS (CAR X) (APPEND (CDR X) Y)))))");
        Checks.due("APPEND", Checks.evalOutcome(yard, "(APPEND '(A B) '(C . D))"), "(A B C . D)");
        Checks.define(yard, "MAPCAR (LAMBDA (F L) (COND ((NULL L) NIL) (T (CONS (F (CAR L)) (MAPCAR F (CDR L))))))");
        Checks.due("MAPCAR", Checks.evalOutcome(yard, "(MAPCAR '(LAMBDA (X) (TIMES X X)) '(1 2 3))"), "(1 4 9)");
        Checks.due("dynamic L", Checks.evalOutcome(yard, "((LAMBDA (L) (MAPCAR '(LAMBDA (X) (CONS X L)) '(1 2))) 5)"), "((1 1 2) (2 2))");
        Checks.due("FUNCTION's L", Checks.evalOutcome(yard, "((LAMBDA (L) (MAPCAR (FUNCTION (LAMBDA (X) (CONS X L))) '(1 2))) 5)"),
                "((1 . 5) (2 . 5))");
        Checks.define(yard, "HEAD CAR");
        Checks.due("a SYMBOL as a function", Checks.evalOutcome(yard, "(HEAD '(A))"), "A");
        Checks.due("a STEP more", yard.count(2), 6);
        Checks.define(yard, "F (LAMBDA (X) X)");
        Checks.due("F", Checks.evalOutcome(yard, "(F 1)"), "1");
        Checks.due("its FUEL", yard.count(2), 8);
        Checks.due("ahead of ENV", Checks.evalOutcome(yard, "((LAMBDA (F) (F 1)) 'LIST)"), "1");
        Checks.due("a function is no VALUE", Checks.evalOutcome(yard, "F"), "fault 6 at -1");
        Checks.define(yard, "LIST (LAMBDA () 5)");
        Checks.due("ahead of those from CAR on", Checks.evalOutcome(yard, "(LIST)"), "5");
        Checks.due("and of their VALUES", Checks.evalOutcome(yard, "(LIST 1)"), "fault 11 at -1");
        Checks.define(yard, "G 5");
        Checks.due("a NUMBER", Checks.evalOutcome(yard, "(G)"), "fault 10 at -1");
        Checks.define(yard, "G G");
        Checks.due("itself", Checks.evalOutcome(yard, "(G)"), "fault 7 at -1");
        Checks.define(yard, "G (FUNARG (LAMBDA () Z) ((Z . 8)))");
        Checks.due("a FUNARG", Checks.evalOutcome(yard, "(G)"), "8");
        Checks.define(yard, "G NIL");
        Checks.due("NIL", Checks.evalOutcome(yard, "(G)"), "fault 10 at -1");
    }

    /** With less FUEL than it takes each program ends with FAULT 7, having taken all. */
    private static void endsAtEachFuel() {
        String text = "((LAMBDA (F X) (COND ((NULL X) 1) (T (F (CONS X NIL))))) (FUNCTION CAR) 2)";
        ConsYard yard = new ConsYard();
        Checks.due(text, Checks.evalOutcome(yard, text), "2");
        int whole = yard.count(2);
        Checks.due("its FUEL", whole, 31);
        for (int fuel = 0; fuel <= whole + 2; fuel++) {
            Checks.due("with FUEL " + fuel, Checks.eval(yard, text, fuel), fuel < whole ? 7 : 0);
            Checks.due("takes", yard.count(2), Math.min(fuel, whole));
        }
    }

    private static void endsAtTwoHundredFrames() {
        ConsYard yard = new ConsYard();
        Checks.define(yard, "F (LAMBDA (N) (COND ((EQ N 0) 0) (T (PLUS 1 (F (DIFFERENCE N 1))))))");
        Checks.due("F 198", Checks.evalOutcome(yard, "(F 198)"), "198");
        Checks.due("its FRAMES", yard.count(3), 200);
        Checks.due("F 199", Checks.evalOutcome(yard, "(F 199)"), "fault 12 at -1");
        Checks.due("its FRAMES", yard.count(3), 200);
        Checks.define(yard, "G (LAMBDA () (COND ((G) 1)))");
        Checks.due("COND has FRAMES, too", Checks.evalOutcome(yard, "(G)"), "fault 12 at -1");
        Checks.due("their FUEL", yard.count(2), 4 * 201);
        Checks.define(yard, "H (LAMBDA (N) (COND ((EQ N 0) (COND A)) (T (PLUS 1 (H (DIFFERENCE N 1))))))");
        Checks.due("a 200th FRAME, then 5", Checks.evalOutcome(yard, "(H 199)"), "fault 12 at -1");
        Checks.due("a 200th FRAME, then 5", Checks.evalOutcome(yard, "(H 198)"), "fault 5 at -1");
        Checks.define(yard, "TAIL (LAMBDA (N) (COND ((EQ N 0) 'DONE) (T (TAIL (DIFFERENCE N 1)))))");
        Checks.due("no FRAME stays for the last call", Checks.eval(yard, "(TAIL 40)", Checks.FUEL), 0);
        Checks.due("its FRAMES", yard.count(3), 2);
    }

    private static void takesTenValues() {
        ConsYard yard = new ConsYard();
        Checks.due("ten", Checks.evalOutcome(yard, "(LIST 1 2 3 4 5 6 7 8 9 10)"), "(1 2 3 4 5 6 7 8 9 10)");
        Checks.due("an eleventh", Checks.evalOutcome(yard, "(LIST 1 2 3 4 5 6 7 8 9 10 11)"), "fault 11 at -1");
        Checks.due("as it comes", yard.count(2), 23);
        Checks.due("ahead of the list's end", Checks.evalOutcome(yard, "(LIST 1 2 3 4 5 6 7 8 9 10 11 . A)"), "fault 11 at -1");
        Checks.due("it is EVALUATED first", Checks.evalOutcome(yard, "(LIST 1 2 3 4 5 6 7 8 9 10 A)"), "fault 6 at -1");
        Checks.due("the list's end", Checks.evalOutcome(yard, "(LIST 1 2 3 4 5 6 7 8 9 10 . A)"), "fault 5 at -1");
        Checks.due("ten variables", Checks.evalOutcome(yard, "((LAMBDA (A B C D E F G H I J) (LIST A J)) 1 2 3 4 5 6 7 8 9 10)"), "(1 10)");
        Checks.due("in LIST's FRAMES", Checks.evalOutcome(yard, "(LIST 1 (LIST 2 3 4 5 6 7 8 9 10 11) 12)"), "(1 (2 3 4 5 6 7 8 9 10 11) 12)");
    }
}
