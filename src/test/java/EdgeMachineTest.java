/**
 * The boundary cases of THE MACHINE, each in a method of its own: FAULTS 5, 6, 7, 9, 10, 11, 12 and 13
 * at every place where the Terms name them, beside the nearest that is taken. Each row is also run
 * with one FUEL less than it takes, which must be FAULT 7: FUEL is asked ahead of each.
 */
final class EdgeMachineTest {
    public static void main(String[] args) {
        quoteAsksForItsSecond();
        condAsksForItsClauses();
        functionAsksForItsSecond();
        aCallsTail();
        aListOfArgumentsEnds();
        lambdaAsksForItsParts();
        variables();
        labelAsksForItsParts();
        funargAsksForItsParts();
        aSymbolIsLookedUp();
        aFunctionIsLookedUp();
        condWithoutAClause();
        noFunction();
        anEleventhValue();
        asManyAsTheVariables();
        asManyAsTold();
        carAndCdrOfAnAtom();
        noNumber();
        divisionByZero();
        truths();
        stepsTakeFuel();
        pairsTakeFuel();
        twentyThousand();
        twoHundredFrames();
        twoHundredFramesOfCond();
        theFirstFaultOfSeveral();
        printedEndsAtTwoThousand();
        nothingOfAFullPageComesLater();
        Checks.finish("EdgeMachineTest");
    }

    /** The answer, or the FAULT's number, of a text that takes so much FUEL and has so many FRAMES. */
    private static void row(String text, String due, int fuel, int frames, String... functions) {
        ConsYard yard = new ConsYard();
        for (String function : functions) {
            Checks.due("define " + function, Checks.define(yard, function), 0);
        }
        String want = due.startsWith("!") ? "fault " + due.substring(1) + " at -1" : due;
        for (int given : new int[] {20000, fuel + 1, fuel}) {
            Checks.due(text + " with FUEL " + given, Checks.outcome(yard, Checks.eval(yard, text, given)), want);
            Checks.due("it takes", yard.count(2), fuel);
            Checks.due("its FRAMES", yard.count(3), frames);
            Checks.due("the PAGE", Checks.page(yard), due.startsWith("!") ? "" : due);
        }
        Checks.due(text + " with FUEL " + (fuel - 1), Checks.evalOutcome(yard, text, fuel - 1), "fault 7 at -1");
        Checks.due("it takes", yard.count(2), fuel - 1);
        Checks.due("the PAGE", Checks.page(yard), "");
    }

    /** QUOTE: "its second ELEMENT is the VALUE", each HEAD and TAIL on the way is asked for. */
    private static void quoteAsksForItsSecond() {
        row("(QUOTE A)", "A", 2, 0);
        row("(QUOTE A . B)", "A", 2, 0);
        row("(QUOTE NIL)", "NIL", 2, 0);
        row("(QUOTE)", "!5", 1, 0);
        row("(QUOTE . A)", "!5", 1, 0);
        row("(QUOTE . 5)", "!5", 1, 0);
        row("(QUOTE . T)", "!5", 1, 0);
    }

    /** COND: "X is the first ELEMENT of its first ELEMENT", later its second ELEMENT. */
    private static void condAsksForItsClauses() {
        row("(COND (T 1))", "1", 5, 1);
        row("(COND (T 1 . A) . B)", "1", 5, 1);
        row("(COND A)", "!5", 1, 1);
        row("(COND 5)", "!5", 1, 1);
        row("(COND T)", "!5", 1, 1);
        row("(COND NIL)", "!5", 1, 1);
        row("(COND (T))", "!5", 3, 1);
        row("(COND (T . A))", "!5", 3, 1);
        row("(COND (5 . 5))", "!5", 3, 1);
        row("(COND (NIL) (T 1))", "1", 7, 1);
        row("(COND (NIL . A) (T 1))", "1", 7, 1);
        row("(COND (NIL 1) A)", "!5", 3, 1);
        row("(COND (NIL 1) NIL)", "!5", 3, 1);
        row("(COND (NIL 1) (T))", "!5", 5, 1);
        row("(COND (NIL 1) (NIL 1) (5 6))", "6", 9, 1);
    }

    /** FUNCTION: "the list of FUNARG, the second ELEMENT, ENV". */
    private static void functionAsksForItsSecond() {
        row("(FUNCTION A)", "(FUNARG A NIL)", 2, 0);
        row("(FUNCTION A . B)", "(FUNARG A NIL)", 2, 0);
        row("(FUNCTION)", "!5", 1, 0);
        row("(FUNCTION . A)", "!5", 1, 0);
        row("(FUNCTION . 5)", "!5", 1, 0);
        row("(EVAL '(FUNCTION A) 5)", "(FUNARG A 5)", 8, 1);
    }

    /** "without a TAIL (an ATOM: NIL, else 5) APPLY at once". */
    private static void aCallsTail() {
        row("(LIST)", "NIL", 3, 0);
        row("(LIST . NIL)", "NIL", 3, 0);
        row("(LIST . (1))", "(1)", 5, 1);
        row("(LIST . A)", "!5", 1, 0);
        row("(LIST . T)", "!5", 1, 0);
        row("(LIST . 0)", "!5", 1, 0);
        row("(F . A)", "!5", 1, 0);
        row("(5 . A)", "!5", 1, 0);
        row("((LAMBDA () 1) . A)", "!5", 1, 0);
    }

    /** A function's list: "a CELL: ..; NIL: the FRAME goes ..; else 5". */
    private static void aListOfArgumentsEnds() {
        row("(LIST 1)", "(1)", 5, 1);
        row("(LIST 1 . NIL)", "(1)", 5, 1);
        row("(LIST 1 . A)", "!5", 3, 1);
        row("(LIST 1 . 5)", "!5", 3, 1);
        row("(LIST 1 . T)", "!5", 3, 1);
        row("(LIST 1 2 3 . T)", "!5", 7, 1);
        row("(F 1 . A)", "!5", 3, 1);
        row("(CAR 1 2 . A)", "!5", 5, 1);
    }

    /** LAMBDA: "the second ELEMENT is the list of variables, the third the body". */
    private static void lambdaAsksForItsParts() {
        row("((LAMBDA () 7))", "7", 4, 0);
        row("((LAMBDA () 7 . A))", "7", 4, 0);
        row("((LAMBDA NIL NIL))", "NIL", 4, 0);
        row("((LAMBDA))", "!5", 2, 0);
        row("((LAMBDA . A))", "!5", 2, 0);
        row("((LAMBDA ()))", "!5", 2, 0);
        row("((LAMBDA () . A))", "!5", 2, 0);
        row("((LAMBDA (X)) 1)", "!5", 4, 1);
        row("((LAMBDA (X) . X) 1)", "!5", 4, 1);
        row("(F)", "!5", 3, 0, "F (LAMBDA ())");
    }

    /** "a list that is gone through ends with another ATOM than NIL, or a variable is no SYMBOL, or NIL or T". */
    private static void variables() {
        row("((LAMBDA (X) X) 1)", "1", 7, 1);
        row("((LAMBDA (QUOTE) QUOTE) 1)", "1", 7, 1);
        row("((LAMBDA (FUNARG) FUNARG) 1)", "1", 7, 1);
        row("((LAMBDA (CAR) CAR) 1)", "1", 7, 1);
        String[] wrong = {"NIL", "T", "0", "-1", "5", "(X)", "()", "'X"};
        for (String variable : wrong) {
            row("((LAMBDA (" + variable + ") 1) 1)", "!5", 4, 1);
            row("((LAMBDA (X " + variable + ") 1) 1 2)", "!5", 6, 1);
            row("((LAMBDA (" + variable + " X) 1) 1 2)", "!5", 6, 1);
        }
        row("((LAMBDA X 1) 1)", "!5", 4, 1);
        row("((LAMBDA X 1))", "!5", 2, 0);
        row("((LAMBDA T 1))", "!5", 2, 0);
        row("((LAMBDA 5 1))", "!5", 2, 0);
        row("((LAMBDA (X . Y) 1) 1)", "!5", 4, 1);
        row("((LAMBDA (X . 5) 1) 1)", "!5", 4, 1);
        row("((LAMBDA (X Y . T) 1) 1 2)", "!5", 6, 1);
        row("((LAMBDA (X . NIL) X) 1)", "1", 7, 1);
    }

    /** LABEL: "both its second and third ELEMENT are asked for, the second being a variable (5)". */
    private static void labelAsksForItsParts() {
        row("((LABEL F CAR) '(A))", "A", 6, 1);
        row("((LABEL F CAR . B) '(A))", "A", 6, 1);
        row("((LABEL QUOTE CAR) '(A))", "A", 6, 1);
        row("((LABEL))", "!5", 2, 0);
        row("((LABEL . F))", "!5", 2, 0);
        row("((LABEL F))", "!5", 2, 0);
        row("((LABEL F . CAR))", "!5", 2, 0);
        for (String variable : new String[] {"NIL", "T", "0", "5", "(F)", "()"}) {
            row("((LABEL " + variable + " CAR) '(A))", "!5", 4, 1);
        }
        Checks.due("a LABEL of itself", Checks.evalOutcome(new ConsYard(), "((LABEL F F) 1)"), "fault 7 at -1");
    }

    /** FUNARG: "the second ELEMENT is f, the third ENV". */
    private static void funargAsksForItsParts() {
        row("((FUNARG CAR NIL) '(A))", "A", 6, 1);
        row("((FUNARG CAR NIL . B) '(A))", "A", 6, 1);
        row("((FUNARG CAR 5) '(A))", "A", 6, 1);
        row("((FUNARG))", "!5", 2, 0);
        row("((FUNARG . F))", "!5", 2, 0);
        row("((FUNARG F))", "!5", 2, 0);
        row("((FUNARG F . NIL))", "!5", 2, 0);
        row("((FUNARG F . A))", "!5", 2, 0);
        row("((FUNARG (LAMBDA () X) ((X . 3))))", "3", 6, 0);
        row("((FUNARG (LAMBDA () X) ((Y . 3))))", "!6", 5, 0);
    }

    /** "Another SYMBOL: its TAIL in ENV; without one FAULT 6", and 5 on the way. */
    private static void aSymbolIsLookedUp() {
        row("A", "!6", 1, 0);
        row("QUOTE", "!6", 1, 0);
        row("CAR", "!6", 1, 0);
        row("F", "!6", 1, 0, "F (A)");
        row("NIL", "NIL", 2, 0);
        row("T", "T", 2, 0);
        row("(EVAL 'X '((X . 1)))", "1", 9, 1);
        row("(EVAL 'X '((X . 1) (X . 2)))", "1", 9, 1);
        row("(EVAL 'X '((X)))", "NIL", 9, 1);
        row("(EVAL 'X '((Y . 2) (X . 1)))", "1", 10, 1);
        row("(EVAL 'X '((Y . 2)))", "!6", 8, 1);
        row("(EVAL 'X NIL)", "!6", 7, 1);
        row("(EVAL NIL '((NIL . 1)))", "NIL", 8, 1);
        row("(EVAL T '((T . 1)))", "T", 8, 1);
        row("(EVAL 'X '((X . 1) . A))", "1", 9, 1);
        row("(EVAL 'X '((Y . 1) . A))", "!5", 8, 1);
        row("(EVAL 'X '((Y . 1) . 5))", "!5", 8, 1);
        row("(EVAL 'X 'A)", "!5", 7, 1);
        row("(EVAL 'X T)", "!5", 7, 1);
        row("(EVAL 'X 5)", "!5", 7, 1);
        row("(EVAL 'X '(A (X . 1)))", "!5", 8, 1);
        row("(EVAL 'X '(NIL (X . 1)))", "!5", 8, 1);
        row("(EVAL 'X '((X . 1) A))", "1", 9, 1);
        row("(EVAL 'X '((Y . 1) 5))", "!5", 9, 1);
        row("(EVAL 'X '((5 . 2) ((X) . 3) (X . 1)))", "1", 11, 1);
    }

    /** "else looked up in ENV: its TAIL is f: APPLY; without one FAULT 10", and 5 on the way. */
    private static void aFunctionIsLookedUp() {
        row("(F)", "!10", 2, 0);
        row("(EVAL '(F) '((F . LIST)))", "NIL", 11, 1);
        row("(EVAL '(F) '((G . CAR) (F . LIST)))", "NIL", 12, 1);
        row("(EVAL '(F) '((G . CAR)))", "!10", 9, 1);
        row("(EVAL '(F) NIL)", "!10", 8, 1);
        row("(EVAL '(F) 'A)", "!5", 8, 1);
        row("(EVAL '(F) 5)", "!5", 8, 1);
        row("(EVAL '(F) '((G . CAR) . A))", "!5", 9, 1);
        row("(EVAL '(F) '(A))", "!5", 9, 1);
        row("(EVAL '(F) '((F . LIST) . A))", "NIL", 11, 1);
        row("(EVAL '(LIST) '((LIST . CAR)))", "NIL", 9, 1);
        row("(EVAL '(F) '((F . LIST)))", "7", 11, 1, "F (LAMBDA () 7)");
        row("(EVAL '(LIST) 5)", "NIL", 9, 1);
    }

    /** "its TAIL is an ATOM: FAULT 9", at COND and when its list goes on. */
    private static void condWithoutAClause() {
        row("(COND)", "!9", 1, 0);
        row("(COND . A)", "!9", 1, 0);
        row("(COND . 5)", "!9", 1, 0);
        row("(COND . T)", "!9", 1, 0);
        row("(COND (NIL 1))", "!9", 3, 1);
        row("(COND (NIL 1) . A)", "!9", 3, 1);
        row("(COND (NIL 1) . 5)", "!9", 3, 1);
        row("(COND (NIL 1) (NIL 2))", "!9", 5, 1);
        row("(COND (NIL 1) (T 2))", "2", 7, 1);
        row("(COND (T 2) . A)", "2", 5, 1);
    }

    /** FAULT 10: a SYMBOL without a function, a NUMBER, "Another CELL". */
    private static void noFunction() {
        for (String name : new String[] {"NIL", "T", "LAMBDA", "LABEL", "FUNARG", "F"}) {
            row("(" + name + ")", "!10", 2, 0);
            row("(" + name + " 1)", "!10", 4, 1);
            row("(EVAL '(" + name + ") '((" + name + " . LIST)))", "NIL", 11, 1);
        }
        for (String other : new String[] {"0", "5", "-1", "(CAR)", "(NIL)", "((LAMBDA () 1))", "(5)", "(QUOTE CAR)", "(COND (T CAR))", "(FUNCTION CAR)", "(T . LIST)"}) {
            row("(" + other + ")", "!10", 2, 0);
            row("(" + other + " 1)", "!10", 4, 1);
            row("(F)", "!10", 3, 0, "F " + other);
            row("(EVAL '(F) '((F . " + other + ")))", "!10", 10, 1);
            row("((LABEL F " + other + "))", "!10", 3, 0);
            row("((FUNARG " + other + " NIL))", "!10", 3, 0);
        }
        row("(F)", "NIL", 4, 0, "F LIST");
        row("(F)", "!10", 3, 0, "F QUOTE");
        row("(F)", "!10", 3, 0, "F NIL");
        row("(F)", "!10", 4, 0, "F G", "G H");
    }

    /** "the VALUE is one more of its VALUES (an eleventh: FAULT 11)". */
    private static void anEleventhValue() {
        for (int values = 0; values <= 10; values++) {
            String numbers = " 1 2 3 4 5 6 7 8 9 0".substring(0, 2 * values);
            row("(LIST" + numbers + ")", values == 0 ? "NIL" : "(" + numbers.substring(1) + ")", 3 + 2 * values, values == 0 ? 0 : 1);
        }
        row("(LIST 1 2 3 4 5 6 7 8 9 0 1)", "!11", 23, 1);
        row("(LIST 1 2 3 4 5 6 7 8 9 0 1 2)", "!11", 23, 1);
        row("(LIST 1 2 3 4 5 6 7 8 9 0 1 . A)", "!11", 23, 1);
        row("(LIST 1 2 3 4 5 6 7 8 9 0 A)", "!6", 22, 1);
        row("(LIST 1 2 3 4 5 6 7 8 9 0 . A)", "!5", 21, 1);
        row("(F 1 2 3 4 5 6 7 8 9 0 1)", "!11", 23, 1);
        row("(F 1 2 3 4 5 6 7 8 9 0)", "!10", 22, 1);
        row("(CAR 1 2 3 4 5 6 7 8 9 0)", "!11", 22, 1);
        row("(LIST 1 2 3 4 5 6 7 8 9 (LIST 1 2 3 4 5 6 7 8 9 0))", "(1 2 3 4 5 6 7 8 9 (1 2 3 4 5 6 7 8 9 0))", 1 + 18 + 23 + 2, 2);
        row("(LIST 1 2 3 4 5 6 7 8 9 (LIST 1 2 3 4 5 6 7 8 9 0 1))", "!11", 1 + 18 + 23, 2);
    }

    /** LAMBDA: "as many as the VALUES, else FAULT 11 (variables are looked at first, all, as to 5)". */
    private static void asManyAsTheVariables() {
        for (int variables = 0; variables <= 12; variables++) {
            String names = " A B C D E F G H I J K L".substring(0, 2 * variables);
            for (int values = 0; values <= 10; values++) {
                String numbers = " 1 2 3 4 5 6 7 8 9 0".substring(0, 2 * values);
                boolean equal = variables == values;
                row("((LAMBDA (" + names + ") 7)" + numbers + ")", equal ? "7" : "!11", 2 + 2 * values + (equal ? 2 : 0), values == 0 ? 0 : 1);
            }
            row("((LAMBDA (" + names + " T) 7))", "!5", 2, 0);
            row("((LAMBDA (X" + names + " . X) 7))", "!5", 2, 0);
            row("((LAMBDA (X" + names + ")))", "!5", 2, 0);
        }
        row("((LAMBDA (A B C D E F G H I J) (LIST J I H G F E D C B A)) 1 2 3 4 5 6 7 8 9 0)", "(0 9 8 7 6 5 4 3 2 1)", 22 + 1 + 20 + 55 + 2, 1);
        row("((LAMBDA (X X) X) 1 2)", "1", 9, 1);
        row("((LAMBDA (X Y) ((LAMBDA (Z) (LIST X Y Z)) 3)) 1 2)", "(1 2 3)", 25, 1);
        row("((LAMBDA (X Y) ((LAMBDA (Y) (LIST X Y)) 3)) 1 2)", "(1 3)", 20, 1);
    }

    /** "Those from CAR on, with as many VALUES as told, else FAULT 11". */
    private static void asManyAsTold() {
        String[] ones = {"CAR", "CDR", "ATOM", "NUMBERP", "NULL"};
        String[] twos = {"CONS", "EQ", "EVAL", "PLUS", "DIFFERENCE", "TIMES", "QUOTIENT", "REMAINDER", "LESSP"};
        for (String name : ones) {
            row("(" + name + ")", "!11", 2, 0);
            row("(" + name + " '(A) 2)", "!11", 6, 1);
            row("(" + name + " 1 2 3 4 5 6 7 8 9 0)", "!11", 22, 1);
        }
        for (String name : twos) {
            row("(" + name + ")", "!11", 2, 0);
            row("(" + name + " 1)", "!11", 4, 1);
            row("(" + name + " 'A)", "!11", 4, 1);
            row("(" + name + " 1 2 3)", "!11", 8, 1);
            row("(" + name + " 'A 0 3)", "!11", 8, 1);
            row("(" + name + " 1 2 3 4 5 6 7 8 9 0)", "!11", 22, 1);
        }
        row("(CAR '(A))", "A", 5, 1);
        row("(CONS 1 2)", "(1 . 2)", 7, 1);
        row("(EVAL 1 2)", "1", 8, 1);
    }

    /** "CAR a, CDR a: HEAD, TAIL; of an ATOM FAULT 13". */
    private static void carAndCdrOfAnAtom() {
        for (String atom : new String[] {"NIL", "T", "'A", "'CAR", "0", "-2147483648", "2147483647", "()"}) {
            row("(CAR " + atom + ")", "!13", 4, 1);
            row("(CDR " + atom + ")", "!13", 4, 1);
        }
        row("(CAR '(NIL))", "NIL", 5, 1);
        row("(CDR '(NIL))", "NIL", 5, 1);
        row("(CAR '(A . B))", "A", 5, 1);
        row("(CDR '(A . B))", "B", 5, 1);
    }

    /** "FAULT 13, if one is no NUMBER". */
    private static void noNumber() {
        String[] names = {"PLUS", "DIFFERENCE", "TIMES", "QUOTIENT", "REMAINDER", "LESSP"};
        String[] answers = {"8", "4", "12", "3", "0", "NIL"};
        for (int k = 0; k < names.length; k++) {
            row("(" + names[k] + " 6 2)", answers[k], 7, 1);
            for (String other : new String[] {"NIL", "T", "'A", "'(1)", "''1"}) {
                row("(" + names[k] + " 6 " + other + ")", "!13", 6, 1);
                row("(" + names[k] + " " + other + " 2)", "!13", 6, 1);
                row("(" + names[k] + " " + other + " " + other + ")", "!13", 6, 1);
                row("(" + names[k] + " " + other + " 0)", "!13", 6, 1);
            }
        }
    }

    /** "or at division by 0", and beside it: "QUOTIENT (towards 0), REMAINDER (with the sign of a)". */
    private static void divisionByZero() {
        for (String a : new String[] {"0", "1", "-1", "7", "2147483647", "-2147483648"}) {
            row("(QUOTIENT " + a + " 0)", "!13", 6, 1);
            row("(REMAINDER " + a + " 0)", "!13", 6, 1);
            row("(QUOTIENT " + a + " -0)", "!13", 6, 1);
            row("(QUOTIENT " + a + " 1)", a, 7, 1);
            row("(REMAINDER " + a + " 1)", "0", 7, 1);
            row("(REMAINDER " + a + " -1)", "0", 7, 1);
            row("(TIMES " + a + " 0)", "0", 7, 1);
        }
        String[][] rows = {{"7", "2", "3", "1"}, {"-7", "2", "-3", "-1"}, {"7", "-2", "-3", "1"}, {"-7", "-2", "3", "-1"}, {"0", "5", "0", "0"},
            {"4", "5", "0", "4"}, {"-4", "5", "0", "-4"}, {"5", "5", "1", "0"}, {"-2147483648", "-1", "-2147483648", "0"},
            {"-2147483648", "2", "-1073741824", "0"}, {"2147483647", "-1", "-2147483647", "0"}};
        for (String[] row : rows) {
            row("(QUOTIENT " + row[0] + " " + row[1] + ")", row[2], 7, 1);
            row("(REMAINDER " + row[0] + " " + row[1] + ")", row[3], 7, 1);
        }
    }

    /** "ATOM a, NUMBERP a, NULL a: T or NIL. EQ a b: T if both are the same ATOM, else NIL." */
    private static void truths() {
        String[] values = {"NIL", "T", "'A", "0", "1", "'(NIL)", "'(A)"};
        String[] isAtom = {"T", "T", "T", "T", "T", "NIL", "NIL"};
        String[] isNumber = {"NIL", "NIL", "NIL", "T", "T", "NIL", "NIL"};
        for (int k = 0; k < values.length; k++) {
            row("(ATOM " + values[k] + ")", isAtom[k], 5, 1);
            row("(NUMBERP " + values[k] + ")", isNumber[k], 5, 1);
            row("(NULL " + values[k] + ")", k == 0 ? "T" : "NIL", 5, 1);
            for (int other = 0; other < values.length; other++) {
                row("(EQ " + values[k] + " " + values[other] + ")", k == other && k < 5 ? "T" : "NIL", 7, 1);
            }
            row("(COND (" + values[k] + " 1) (T 2))", k == 0 ? "2" : "1", k == 0 ? 7 : 5, 1);
        }
        row("((LAMBDA (X) (EQ X X)) '(A))", "NIL", 13, 1);
        row("(LESSP 1 2)", "T", 7, 1);
        row("(LESSP 2 2)", "NIL", 7, 1);
        row("(LESSP 2 1)", "NIL", 7, 1);
        row("(LESSP -1 0)", "T", 7, 1);
    }

    /** "Each STEP takes one of the FUEL; .. without any left: FAULT 7 (asked ahead of each)". */
    private static void stepsTakeFuel() {
        String text = "((LAMBDA (F X) (COND ((NULL X) 1) (T (F (CONS X NIL))))) (FUNCTION CAR) 2)";
        ConsYard yard = new ConsYard();
        for (int fuel = 0; fuel < 31; fuel++) {
            Checks.due(text + " with FUEL " + fuel, Checks.evalOutcome(yard, text, fuel), "fault 7 at -1");
            Checks.due("it takes", yard.count(2), fuel);
        }
        Checks.due("with FUEL 31", Checks.evalOutcome(yard, text, 31), "2");
        Checks.due("it takes", yard.count(2), 31);
        for (String atom : new String[] {"7", "NIL", "T", "'A"}) {
            Checks.due(atom + " without FUEL", Checks.evalOutcome(yard, atom, 0), "fault 7 at -1");
            Checks.due(atom + " with one", Checks.evalOutcome(yard, atom, 1), "fault 7 at -1");
            Checks.due(atom + " with two", Checks.eval(yard, atom, 2), 0);
        }
        Checks.due("no FUEL ahead of FAULT 6", Checks.evalOutcome(yard, "A", 0), "fault 7 at -1");
        Checks.due("FUEL ahead of FAULT 6", Checks.evalOutcome(yard, "A", 1), "fault 6 at -1");
        Checks.due("no FUEL for a text with a FAULT", Checks.evalOutcome(yard, "(", 0), "fault 1 at 1");
    }

    /** "each PAIR of an ENV that is looked at takes one, too". */
    private static void pairsTakeFuel() {
        for (int pairs = 0; pairs <= 12; pairs++) {
            String others = "(Y . 2)".repeat(pairs);
            row("(EVAL 'X '(" + others + "(X . 1)))", "1", 8 + pairs + 1, 1);
            row("(EVAL 'X '(" + others + "))", "!6", 7 + pairs, 1);
            row("(EVAL '(F) '(" + others + "(F . LIST)))", "NIL", 10 + pairs + 1, 1);
            row("(EVAL '(F) '(" + others + "))", "!10", 8 + pairs, 1);
        }
        ConsYard yard = new ConsYard();
        String text = "(EVAL 'X '((Y . 1) (Z . 2) (X . 3)))";
        for (int fuel = 7; fuel <= 11; fuel++) {
            Checks.due(text + " with FUEL " + fuel, Checks.evalOutcome(yard, text, fuel), fuel < 11 ? "fault 7 at -1" : "3");
            Checks.due("it takes", yard.count(2), fuel);
        }
    }

    /** "the FUEL is not 0 to 20,000": the largest FUEL is enough for 20,000 and for no more. */
    private static void twentyThousand() {
        ConsYard yard = new ConsYard();
        yard.room(2000);
        // (L n) takes 16 + 22 n
        Checks.define(yard, "L (LAMBDA (N) (COND ((EQ N 0) 'END) (T (L (DIFFERENCE N 1)))))");
        for (int n = 0; n <= 3; n++) {
            Checks.eval(yard, "(L " + n + ")", 20000);
            Checks.due("FUEL of (L " + n + ")", yard.count(2), 16 + 22 * n);
        }
        String[] texts = {"(LIST 1 2 (L 908))", "(LIST 1 (LIST (L 908)))", "(LIST (LIST (LIST (L 908))))", "(L 909)"};
        String[] due = {"(1 2 END)", "(1 (END))", "fault 7 at -1", "fault 7 at -1"};
        int[] fuel = {19999, 20000, 20000, 20000};
        for (int k = 0; k < texts.length; k++) {
            Checks.due(texts[k], Checks.evalOutcome(yard, texts[k], 20000), due[k]);
            Checks.due("it takes", yard.count(2), fuel[k]);
        }
        Checks.due("one FUEL less", Checks.evalOutcome(yard, texts[1], 19999), "fault 7 at -1");
        Checks.due("it takes", yard.count(2), 19999);
    }

    /** "a STACK of at most 200 FRAMES", "A FRAME that would be the 201st: FAULT 12". */
    private static void twoHundredFrames() {
        ConsYard yard = new ConsYard();
        yard.room(2000);
        Checks.define(yard, "F (LAMBDA (N) (COND ((EQ N 0) 0) (T (PLUS 1 (F (DIFFERENCE N 1))))))");
        for (int n = 195; n <= 201; n++) {
            Checks.due("F " + n, Checks.evalOutcome(yard, "(F " + n + ")"), n <= 198 ? String.valueOf(n) : "fault 12 at -1");
            Checks.due("its FRAMES", yard.count(3), Math.min(200, n + 2));
        }
        Checks.define(yard, "G (LAMBDA () (LIST (G)))");
        Checks.due("G without end", Checks.evalOutcome(yard, "(G)"), "fault 12 at -1");
        Checks.due("its FRAMES", yard.count(3), 200);
        Checks.due("its FUEL", yard.count(2), 201 * 4);
        Checks.due("G with less FUEL", Checks.evalOutcome(yard, "(G)", 201 * 4 - 1), "fault 7 at -1");
        Checks.due("G with 200 FRAMES", Checks.evalOutcome(yard, "(G)", 200 * 4), "fault 7 at -1");
        Checks.due("its FRAMES", yard.count(3), 200);
        Checks.eval(yard, "(G)", 200 * 4 - 1);
        Checks.due("FRAMES with one FUEL less", yard.count(3), 199);
        Checks.due("a call without VALUES has no FRAME", Checks.evalOutcome(yard, "((LAMBDA () (LIST)))"), "NIL");
        Checks.due("its FRAMES", yard.count(3), 0);
        Checks.define(yard, "H (LAMBDA (N) (COND ((EQ N 0) 'END) (T (H (DIFFERENCE N 1)))))");
        Checks.due("a FRAME goes ahead of APPLY and of a choice", Checks.evalOutcome(yard, "(H 300)"), "END");
        Checks.due("its FRAMES", yard.count(3), 2);
    }

    /** COND's FRAMES count as well, up to the 200th and at the 201st. */
    private static void twoHundredFramesOfCond() {
        ConsYard yard = new ConsYard();
        yard.room(2000);
        Checks.define(yard, "D (LAMBDA (N) (COND ((LESSP N 1) T) ((D (DIFFERENCE N 1)) T)))");
        for (int n = 195; n <= 201; n++) {
            Checks.due("D " + n, Checks.evalOutcome(yard, "(D " + n + ")"), n <= 198 ? "T" : "fault 12 at -1");
            Checks.due("its FRAMES", yard.count(3), Math.min(200, n + 2));
        }
        Checks.define(yard, "G (LAMBDA () (COND ((G) 1)))");
        Checks.due("G without end", Checks.evalOutcome(yard, "(G)"), "fault 12 at -1");
        Checks.due("its FRAMES", yard.count(3), 200);
        Checks.due("its FUEL", yard.count(2), 201 * 4);
        Checks.define(yard, "H (LAMBDA (N) (COND ((EQ N 0) (COND A)) (T (PLUS 1 (H (DIFFERENCE N 1))))))");
        Checks.due("a 200th FRAME, then FAULT 5", Checks.evalOutcome(yard, "(H 198)"), "fault 5 at -1");
        Checks.due("a 201st FRAME ahead of FAULT 5", Checks.evalOutcome(yard, "(H 199)"), "fault 12 at -1");
        Checks.define(yard, "H (LAMBDA (N) (COND ((EQ N 0) (COND . A)) (T (PLUS 1 (H (DIFFERENCE N 1))))))");
        Checks.due("FAULT 9 ahead of a FRAME", Checks.evalOutcome(yard, "(H 198)"), "fault 9 at -1");
        Checks.due("its FRAMES", yard.count(3), 200);
    }

    /** Where two FAULTS could be told, the one that the Terms ask for first. */
    private static void theFirstFaultOfSeveral() {
        row("(LIST A . B)", "!6", 2, 1);
        row("(F (CAR 5))", "!13", 5, 2);
        row("(CAR A B)", "!6", 2, 1);
        row("((LAMBDA (T) . 5) A)", "!6", 2, 1);
        row("((LAMBDA (T)) 1 2)", "!5", 6, 1);
        row("((LAMBDA (X Y) . 5) 1)", "!5", 4, 1);
        row("(CAR 5 6)", "!11", 6, 1);
        row("(QUOTIENT 'A 0)", "!13", 6, 1);
        row("(COND (A))", "!6", 2, 1);
        row("(COND ((COND)))", "!9", 2, 1);
        row("((LABEL T))", "!5", 2, 0);
        row("(EVAL A)", "!6", 2, 1);
    }

    /** "At most 2,000 bytes: what is more is left out", however much that is. */
    private static void printedEndsAtTwoThousand() {
        ConsYard yard = new ConsYard();
        yard.room(2000);
        Checks.define(yard, "N (LAMBDA (X N) (COND ((EQ N 0) X) (T (N (CONS X NIL) (DIFFERENCE N 1)))))");
        // a VALUE in n lists has 2 n bytes more
        String[] inner = {"A", "AB", "-1", "(AB . C)"};
        for (String one : inner) {
            for (int n : new int[] {0, 1, 100, 300}) {
                String whole = "(".repeat(n) + one + ")".repeat(n);
                Checks.due(one + " in " + n + " lists", Checks.evalOutcome(yard, "(N '" + one + " " + n + ")"), whole);
            }
        }
        Checks.define(yard, "D (LAMBDA (X N) (COND ((EQ N 0) X) (T (D (CONS X X) (DIFFERENCE N 1)))))");
        for (int n = 0; n <= 40; n++) {
            Checks.due("doubled " + n + " times", Checks.eval(yard, "(D '(A) " + n + ")", 20000), 0);
            String whole = doubled(Math.min(n, 11));
            Checks.due("its bytes", yard.count(5), n < 10 ? Math.min(whole.length(), 2000) : 2000);
            Checks.due("no byte behind them", yard.octet(yard.count(5)), -1);
            if (n < 11) {
                Checks.due("these", Checks.page(yard), whole.substring(0, Math.min(whole.length(), 2000)));
            }
        }
    }

    /** "what is more is left out", and is not told by what is PRINTED next. */
    private static void nothingOfAFullPageComesLater() {
        ConsYard yard = new ConsYard();
        yard.room(2000);
        Checks.define(yard, "D (LAMBDA (X N) (COND ((EQ N 0) X) (T (D (CONS X X) (DIFFERENCE N 1)))))");
        Checks.define(yard, "F (G . H)");
        String[] texts = {"A", "5", "()", "(A)", "(A . B)", "((A) B)"};
        String[] printed = {"A", "5", "NIL", "(A)", "(A . B)", "((A) B)"};
        for (int k = 0; k < texts.length; k++) {
            fillPage(yard);
            Checks.due("echo " + texts[k], Checks.echoOutcome(yard, texts[k]), printed[k]);
            fillPage(yard);
            Checks.due("eval " + texts[k], Checks.evalOutcome(yard, "(QUOTE " + texts[k] + ")"), printed[k]);
        }
        fillPage(yard);
        Checks.due("function", yard.function(26) + Checks.page(yard), "7(G . H)");
        fillPage(yard);
        Checks.due("a FAULT of the text", Checks.echo(yard, ")") + Checks.page(yard), "1");
        fillPage(yard);
        Checks.due("a FAULT of the machine", Checks.eval(yard, "A", 9) + Checks.page(yard), "6");
    }

    private static void fillPage(ConsYard yard) {
        Checks.due("a full PAGE", Checks.eval(yard, "(D '(A) 30)", 20000), 0);
        Checks.due("its bytes", yard.count(5), 2000);
    }

    private static String doubled(int times) {
        String inner = "A";
        for (int k = 0; k < times; k++) {
            inner = "(" + inner + ") " + inner;
        }
        return "(" + inner + ")";
    }
}
