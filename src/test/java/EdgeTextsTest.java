/**
 * The boundary cases of the Terms and of texts, each in a method of its own: SYMBOLS, NUMBERS, the
 * bytes of texts, and FAULTS 1, 2, 3, 4 and 8 with their places.
 */
final class EdgeTextsTest {
    private static final String TEN = "ABCDEFGHIJ";
    private static final String ELEVEN = "ABCDEFGHIJK";

    public static void main(String[] args) {
        firstSignOfAToken();
        laterSignsOfASymbol();
        signsOfASymbol();
        threeHundredSymbols();
        numbersWrap();
        twoThousandBytes();
        blanksPartAtoms();
        whatCanStandWhere();
        endsTooEarly();
        minusRightAheadOfDigits();
        symbolOfMoreThanTenSigns();
        numberBeyondAnInt();
        atomsGoAsFarAsTheyCan();
        symbolThreeHundredAndOne();
        sixtyFirstList();
        sixtyFirstQuote();
        quoteIsOpenTillItsSEnds();
        memoryOfAList();
        memoryOfAQuote();
        cellsAreMadeTheLastOneFirst();
        firstFaultFromTheLeft();
        printedBytes();
        Checks.finish("EdgeTextsTest");
    }

    private static String echo(String text) {
        return Checks.echoOutcome(new ConsYard(), text);
    }

    private static String echoIn(int room, String text) {
        ConsYard yard = new ConsYard();
        yard.room(room);
        return Checks.echoOutcome(yard, text);
    }

    private static int faultIn(int room, String text) {
        ConsYard yard = new ConsYard();
        yard.room(room);
        return Checks.echo(yard, text);
    }

    private static boolean isLetter(int octet) {
        return octet >= 'A' && octet <= 'Z';
    }

    private static boolean isDigit(int octet) {
        return octet >= '0' && octet <= '9';
    }

    /** "a capital letter, then ..": @ and [ stand beside the letters, / and : beside the digits. */
    private static void firstSignOfAToken() {
        for (int octet = 0; octet < 256; octet++) {
            String due = "fault 1 at 0";
            if (isLetter(octet) || isDigit(octet)) {
                due = String.valueOf((char) octet);
            } else if (octet == ' ' || octet == '\n' || octet == '(' || octet == '\'') {
                due = "fault 1 at 1";
            }
            Checks.due("byte " + octet + " alone", echo(String.valueOf((char) octet)), due);
        }
    }

    /** "then capitals and digits". */
    private static void laterSignsOfASymbol() {
        for (int octet = 0; octet < 256; octet++) {
            String text = "Q" + (char) octet;
            String due = isLetter(octet) || isDigit(octet) ? text : octet == ' ' || octet == '\n' ? "Q" : "fault 1 at 1";
            Checks.due("byte " + octet + " behind Q", echo(text), due);
        }
    }

    /** "10 at most". */
    private static void signsOfASymbol() {
        ConsYard yard = new ConsYard();
        for (int signs = 1; signs <= 12; signs++) {
            for (String name : new String[] {"ABCDEFGHIJKL".substring(0, signs), "Z12345678901".substring(0, signs)}) {
                int known = yard.count(0);
                Checks.due(signs + " signs", Checks.echoOutcome(yard, name), signs <= 10 ? name : "fault 2 at 0");
                Checks.due("a SYMBOL more", yard.count(0), signs <= 10 ? known + 1 : known);
                Checks.due("read again", Checks.echoOutcome(yard, name), signs <= 10 ? name : "fault 2 at 0");
                Checks.due("not one more", yard.count(0), signs <= 10 ? known + 1 : known);
            }
        }
        Checks.due("the tenth sign tells", Checks.evalOutcome(new ConsYard(), "(EQ 'ABCDEFGHIJ 'ABCDEFGHIK)"), "NIL");
        Checks.due("the first sign tells", Checks.evalOutcome(new ConsYard(), "(EQ 'ABCDEFGHIJ 'BBCDEFGHIJ)"), "NIL");
        Checks.due("the ninth is not all", Checks.evalOutcome(new ConsYard(), "(EQ 'ABCDEFGHIJ 'ABCDEFGHI)"), "NIL");
        Checks.due("all ten", Checks.evalOutcome(new ConsYard(), "(EQ 'ABCDEFGHIJ 'ABCDEFGHIJ)"), "T");
    }

    /** "numbered 0 to 22; others as they are read first; 300 at most." */
    private static void threeHundredSymbols() {
        ConsYard yard = new ConsYard();
        Checks.fillSymbols(yard, 298);
        Checks.due("298", yard.count(0), 298);
        Checks.due("the 299th", Checks.echo(yard, "LAST1"), 0);
        Checks.due("299", yard.count(0), 299);
        Checks.due("the 300th", Checks.echo(yard, "LAST2"), 0);
        Checks.due("300", yard.count(0), 300);
        Checks.due("the 301st", Checks.echoOutcome(yard, "LAST3"), "fault 3 at 0");
        Checks.due("300", yard.count(0), 300);
        Checks.due("the first, the last", Checks.echoOutcome(yard, "(NIL LESSP S23 S297 LAST1 LAST2)"), "(NIL LESSP S23 S297 LAST1 LAST2)");
        Checks.define(yard, "LESSP 22");
        Checks.define(yard, "S23 23");
        Checks.define(yard, "LAST2 299");
        for (int k : new int[] {22, 23, 299}) {
            yard.function(k);
            Checks.due("SYMBOL " + k, Checks.page(yard), String.valueOf(k));
        }
    }

    /** "NUMBERS (ints of 32 bits, they wrap)". */
    private static void numbersWrap() {
        String[][] rows = {
            {"(PLUS 2147483646 1)", "2147483647"}, {"(PLUS 2147483647 1)", "-2147483648"},
            {"(PLUS -2147483647 -1)", "-2147483648"}, {"(PLUS -2147483648 -1)", "2147483647"},
            {"(PLUS 2147483647 2147483647)", "-2"}, {"(PLUS -2147483648 -2147483648)", "0"},
            {"(DIFFERENCE -2147483647 1)", "-2147483648"}, {"(DIFFERENCE -2147483648 1)", "2147483647"},
            {"(DIFFERENCE 2147483646 -1)", "2147483647"}, {"(DIFFERENCE 2147483647 -1)", "-2147483648"},
            {"(DIFFERENCE 0 -2147483648)", "-2147483648"}, {"(TIMES 46340 46340)", "2147395600"},
            {"(TIMES 46341 46341)", "-2147479015"}, {"(TIMES -2147483648 -1)", "-2147483648"}, {"(TIMES -2147483648 1)", "-2147483648"},
            {"(TIMES 2147483647 2147483647)", "1"}, {"(TIMES 65536 32768)", "-2147483648"}, {"(TIMES 65536 65536)", "0"},
            {"(QUOTIENT -2147483648 -1)", "-2147483648"}, {"(QUOTIENT -2147483647 -1)", "2147483647"},
            {"(QUOTIENT -2147483648 2147483647)", "-1"}, {"(QUOTIENT 2147483647 -2147483648)", "0"},
            {"(REMAINDER -2147483648 -1)", "0"}, {"(REMAINDER -2147483648 2147483647)", "-1"},
            {"(REMAINDER 2147483647 -2147483648)", "2147483647"}, {"(LESSP -2147483648 2147483647)", "T"},
            {"(LESSP 2147483647 -2147483648)", "NIL"}, {"(LESSP -2147483648 -2147483647)", "T"}, {"(LESSP 2147483647 2147483647)", "NIL"},
            {"(EQ -2147483648 2147483647)", "NIL"}, {"(EQ -2147483648 -2147483648)", "T"}, {"(EQ 2147483647 2147483647)", "T"},
            {"(EQ -1 4)", "NIL"}, {"-2147483648", "-2147483648"}, {"2147483647", "2147483647"}, {"(NUMBERP -2147483648)", "T"},
        };
        for (String[] row : rows) {
            Checks.due(row[0], Checks.evalOutcome(new ConsYard(), row[0]), row[1]);
        }
    }

    /** "TEXTS, at most 2,000 bytes on the TAPE". */
    private static void twoThousandBytes() {
        String list = "(" + "A".repeat(8) + " B".repeat(995) + ")";
        ConsYard yard = new ConsYard();
        Checks.due("2,000 bytes", list.length(), 2000);
        Checks.due("with a ) as the last", Checks.echoOutcome(yard, list), list);
        Checks.feed(yard, list);
        Checks.due("without it", Checks.outcome(yard, yard.echo(1999)), "fault 1 at 1999");
        String define = "F" + " ".repeat(1990) + "(A . BCD)";
        Checks.due("2,000 bytes", define.length(), 2000);
        Checks.due("define of 2,000 bytes", Checks.define(yard, define), 0);
        Checks.due("its function", yard.function(25) + Checks.page(yard), "9(A . BCD)");
    }

    /** "bytes 32 and 10 part ATOMS". */
    private static void blanksPartAtoms() {
        for (int octet = 0; octet < 256; octet++) {
            String got = echo("(A" + (char) octet + "1)");
            if (octet == ' ' || octet == '\n') {
                Checks.due("byte " + octet + " parts A and 1", got, "(A 1)");
            } else if (isLetter(octet) || isDigit(octet)) {
                Checks.due("byte " + octet + " is one of its signs", got, "(A" + (char) octet + "1)");
            } else if ("()'.-".indexOf(octet) < 0) {
                Checks.due("byte " + octet + " is no byte of such texts", got, "fault 1 at 2");
            }
        }
        Checks.due("many of them, everywhere", echo(" \n\n ( \n A \n . \n ' \n B \n ) \n "), "(A QUOTE B)");
        Checks.due("none at all", echo("('A'B.(C(D)E))"), "((QUOTE A) (QUOTE B) C (D) E)");
    }

    /**
     * FAULT 1: "what can't stand there, or no byte of such texts (at it ..)": each token behind each
     * beginning. A row tells which of the tokens can stand there.
     */
    private static void whatCanStandWhere() {
        String[] tokens = {"(", "'", "A", "5", "-5", ")", ".", "-", "a", "\t", "\u00c1", ","};
        String[][] rows = {
            {"", "yyyyynnnnnnn"}, {"A ", "nnnnnnnnnnnn"}, {"() ", "nnnnnnnnnnnn"}, {"'A ", "nnnnnnnnnnnn"}, {"5 ", "nnnnnnnnnnnn"},
            {"'", "yyyyynnnnnnn"}, {"''", "yyyyynnnnnnn"}, {"(", "yyyyyynnnnnn"}, {"(A ", "yyyyyyynnnnn"}, {"(A B ", "yyyyyyynnnnn"},
            {"(() ", "yyyyyyynnnnn"}, {"('A ", "yyyyyyynnnnn"}, {"(5 ", "yyyyyyynnnnn"}, {"(A . ", "yyyyynnnnnnn"},
            {"(A . '", "yyyyynnnnnnn"}, {"('", "yyyyynnnnnnn"}, {"(A . B ", "nnnnnynnnnnn"}, {"(A . () ", "nnnnnynnnnnn"},
            {"(A . 'B ", "nnnnnynnnnnn"}, {"'(A . B ", "nnnnnynnnnnn"}, {"((A . B) ", "yyyyyyynnnnn"}, {"((A . B) . ", "yyyyynnnnnnn"},
        };
        for (String[] row : rows) {
            for (int k = 0; k < tokens.length; k++) {
                ConsYard yard = new ConsYard();
                String text = row[0] + tokens[k];
                int fault = Checks.echo(yard, text);
                if (row[1].charAt(k) == 'n') {
                    Checks.due("[" + text + "]", "fault " + fault + " at " + yard.place(), "fault 1 at " + row[0].length());
                } else {
                    Checks.due("[" + text + "] can stand", fault == 0 || fault == 1 && yard.place() == text.length() ? 1 : 0, 1);
                }
            }
        }
    }

    /** FAULT 1: "at the text's length, if it ends too early". */
    private static void endsTooEarly() {
        String[] texts = {"", " ", "\n\n", "(", "( ", "(A", "(A ", "(A .", "(A . ", "(A . B", "(A . B ", "'", "' ", "''", "('A", "((A)", "'(A", "'(A . 'B"};
        for (String text : texts) {
            Checks.due("[" + text + "]", echo(text), "fault 1 at " + text.length());
            ConsYard yard = new ConsYard();
            Checks.due("define [" + text + "]", Checks.define(yard, "FUN " + text) + " " + yard.place(), "1 " + (4 + text.length()));
            Checks.due("eval [" + text + "]", Checks.evalOutcome(yard, text), "fault 1 at " + text.length());
            Checks.feed(yard, text + "))");
            Checks.due("echo of its bytes alone", Checks.outcome(yard, yard.echo(text.length())), "fault 1 at " + text.length());
        }
        Checks.due("not too early", echo("(A . 'B)"), "(A QUOTE B)");
    }

    /** "perhaps - right ahead of digits". */
    private static void minusRightAheadOfDigits() {
        Checks.due("right ahead", echo("-7"), "-7");
        Checks.due("of all digits", echo("(-0 -1 -2 -3 -4 -5 -6 -7 -8 -9)"), "(0 -1 -2 -3 -4 -5 -6 -7 -8 -9)");
        for (String behind : new String[] {"", " ", " 7", "-", "--7", "A", "(", ")", ".", "'", "/", ":", "a"}) {
            Checks.due("[-" + behind + "]", echo("-" + behind), "fault 1 at 0");
            Checks.due("[(-" + behind + "]", echo("(-" + behind), "fault 1 at 1");
        }
        ConsYard yard = new ConsYard();
        Checks.feed(yard, "-7");
        Checks.due("the digit behind the text's end", Checks.outcome(yard, yard.echo(1)), "fault 1 at 0");
    }

    /** FAULT 2: "a SYMBOL of more than 10 signs .. (at the first byte ..)". */
    private static void symbolOfMoreThanTenSigns() {
        String[][] rows = {{"", ""}, {"(", ")"}, {"(A ", ")"}, {"(A . ", ")"}, {"'", ""}, {" \n", " "}, {"(1", ")"}, {"((A)", " B)"}};
        for (String[] row : rows) {
            int start = row[0].length();
            Checks.due("ten signs behind [" + row[0] + "]", Checks.echo(new ConsYard(), row[0] + TEN + row[1]), 0);
            Checks.due("eleven signs behind [" + row[0] + "]", echo(row[0] + ELEVEN + row[1]), "fault 2 at " + start);
            Checks.due("eleven signs at the end", echo(row[0] + ELEVEN), "fault 2 at " + start);
            Checks.due("digits among them", echo(row[0] + "A0123456789" + row[1]), "fault 2 at " + start);
        }
        Checks.due("2,000 signs", echo("A".repeat(2000)), "fault 2 at 0");
        ConsYard yard = new ConsYard();
        Checks.echo(yard, ELEVEN);
        Checks.due("it is no SYMBOL", yard.count(0), 23);
        Checks.due("a name of ten", Checks.define(yard, TEN + " 1"), 0);
        Checks.due("a name of eleven", Checks.define(yard, " " + ELEVEN + " 1") + " " + yard.place(), "2 1");
    }

    /** FAULT 2: "a NUMBER beyond an int (at the first byte ..)". */
    private static void numberBeyondAnInt() {
        String[][] taken = {{"2147483647", "2147483647"}, {"-2147483648", "-2147483648"}, {"2147483646", "2147483646"},
            {"-2147483647", "-2147483647"}, {"00000000000002147483647", "2147483647"}, {"-00000000000002147483648", "-2147483648"},
            {"0".repeat(1990) + "2147483647", "2147483647"}, {"-" + "0".repeat(1999), "0"}, {"0".repeat(2000), "0"}};
        for (String[] row : taken) {
            Checks.due("echo of " + row[0].length() + " digits", echo(row[0]), row[1]);
        }
        String[] beyond = {"2147483648", "-2147483649", "2147483650", "3000000000", "4294967295", "4294967296", "4294967297", "-4294967296",
            "9223372036854775807", "9223372036854775808", "-9223372036854775808", "-9223372036854775809", "18446744073709551615",
            "18446744073709551616", "18446744073709551617", "21474836470", "-21474836480", "00000000002147483648", "9".repeat(2000),
            "-" + "9".repeat(1999), "1" + "0".repeat(1999)};
        for (String number : beyond) {
            Checks.due(number.substring(0, Math.min(30, number.length())), echo(number), "fault 2 at 0");
            if (number.length() < 100) {
                Checks.due("in a list " + number, echo("(A " + number + ")"), "fault 2 at 3");
                Checks.due("behind a . " + number, echo("(A ." + number + ")"), "fault 2 at 4");
                Checks.due("behind a ' " + number, echo("'" + number), "fault 2 at 1");
            }
        }
    }

    /** "each ATOM goes as far as it can, and none needs a blank behind it". */
    private static void atomsGoAsFarAsTheyCan() {
        String[][] rows = {
            {"(" + TEN + "(" + TEN + ")" + TEN + ")", "(" + TEN + " (" + TEN + ") " + TEN + ")"}, {"(" + TEN + "-1)", "(" + TEN + " -1)"},
            {"(" + TEN + "'A)", "(" + TEN + " (QUOTE A))"}, {"(" + TEN + ".A)", "(" + TEN + " . A)"}, {"(2147483647A)", "(2147483647 A)"},
            {"(2147483647-2147483648A)", "(2147483647 -2147483648 A)"}, {"(1A2-3B4)", "(1 A2 -3 B4)"}, {"(12(3)4)", "(12 (3) 4)"},
            {"(12'3)", "(12 (QUOTE 3))"}, {"(12.34)", "(12 . 34)"}, {"(1 2 .A)", "(1 2 . A)"}, {"(A1.-2)", "(A1 . -2)"},
            {"(0123456789" + TEN + ")", "(123456789 " + TEN + ")"}, {"(214748364812)", "fault 2 at 1"}, {"(2147483648A)", "fault 2 at 1"},
            {"(" + TEN + "1)", "fault 2 at 1"}, {"(" + TEN + "0-1)", "fault 2 at 1"}, {"(1" + ELEVEN + ")", "fault 2 at 2"},
            {"(A-2147483649)", "fault 2 at 2"}, {"A(", "fault 1 at 1"}, {"1A", "fault 1 at 1"}, {"A'", "fault 1 at 1"}, {"A-1", "fault 1 at 1"},
            {"A)", "fault 1 at 1"}, {"12345678901A", "fault 2 at 0"}, {ELEVEN + "a", "fault 2 at 0"}, {ELEVEN + ")", "fault 2 at 0"},
        };
        for (String[] row : rows) {
            Checks.due("[" + row[0] + "]", echo(row[0]), row[1]);
        }
    }

    /** FAULT 3: "a 301st SYMBOL". */
    private static void symbolThreeHundredAndOne() {
        String[][] rows = {{"", ""}, {"(", ")"}, {"(S23 ", ")"}, {"(T . ", ")"}, {"'", ""}, {" \n", ""}, {"('T ", ")"}, {"(1", ")"}};
        for (String[] row : rows) {
            ConsYard yard = new ConsYard();
            Checks.fillSymbols(yard, 299);
            Checks.due("a 300th behind [" + row[0] + "]", Checks.echo(yard, row[0] + "NEW1" + row[1]), 0);
            Checks.due("a 301st", Checks.echoOutcome(yard, row[0] + "NEW2" + row[1]), "fault 3 at " + row[0].length());
            Checks.due("a 301st by eval", Checks.evalOutcome(yard, row[0] + "NEW2" + row[1]), "fault 3 at " + row[0].length());
            Checks.due("a 301st by define", Checks.define(yard, "F " + row[0] + "NEW2" + row[1]) + " " + yard.place(), "3 0");
            Checks.due("a 301st by define", Checks.define(yard, "S23 " + row[0] + "NEW2" + row[1]) + " " + yard.place(), "3 " + (4 + row[0].length()));
            Checks.due("the 300th is known", Checks.echo(yard, row[0] + "NEW1" + row[1]), 0);
            Checks.due("none came", yard.count(0), 300);
            Checks.due("none is defined", yard.count(8), 0);
            Checks.due("too long besides", Checks.echoOutcome(yard, row[0] + ELEVEN), "fault 2 at " + row[0].length());
        }
        ConsYard yard = new ConsYard();
        Checks.fillSymbols(yard, 298);
        Checks.due("three in one text", Checks.echoOutcome(yard, "(N1 N2 N1 N3 N4)"), "fault 3 at 10");
        Checks.due("two of them stay", yard.count(0), 300);
    }

    /** FAULT 4: "a 61st ( .. that is open at one time". */
    private static void sixtyFirstList() {
        for (int open = 59; open <= 62; open++) {
            String list = "(".repeat(open) + ")".repeat(open);
            String due = open <= 60 ? "(".repeat(open - 1) + "NIL" + ")".repeat(open - 1) : "fault 4 at 60";
            Checks.due(open + " lists", echo(list), due);
            Checks.due(open + " lists behind a name", Checks.define(new ConsYard(), "F " + list), open <= 60 ? 0 : 4);
            ConsYard yard = new ConsYard();
            Checks.define(yard, "FUN " + list);
            Checks.due("their place", yard.place(), open <= 60 ? -1 : 64);
            Checks.due("in eval", Checks.eval(yard, list, 0), open <= 60 ? 7 : 4);
            Checks.due("behind a .", echo("(A . ".repeat(open - 1) + "()" + ")".repeat(open - 1)),
                    open <= 60 ? "(" + "A ".repeat(open - 2) + "A)" : "fault 4 at 300");
        }
        Checks.due("closed ones count for nothing", Checks.echo(new ConsYard(), "(" + "()".repeat(300) + ")"), 0);
        String full = "(".repeat(59) + "()".repeat(50) + ")".repeat(59);
        Checks.due("a 60th, again and again", Checks.echo(new ConsYard(), full), 0);
        String over = "(".repeat(59) + "()".repeat(50) + "(())" + ")".repeat(59);
        Checks.due("then a 61st", echo(over), "fault 4 at 160");
        Checks.due("a 61st where none can stand", echo("(".repeat(60) + "A . B("), "fault 1 at 65");
        Checks.due("a ) that none is open for", echo("(".repeat(60) + ")".repeat(61)), "fault 1 at 120");
    }

    /** FAULT 4: "a 61st .. '". */
    private static void sixtyFirstQuote() {
        for (int open = 59; open <= 62; open++) {
            String due = open <= 60 ? "(QUOTE ".repeat(open) + "A" + ")".repeat(open) : "fault 4 at 60";
            Checks.due(open + " quotes", echo("'".repeat(open) + "A"), due);
            Checks.due(open + " quotes with blanks", echo("' ".repeat(open) + "A"), open <= 60 ? due : "fault 4 at 120");
            String mixed = "('".repeat(open / 2) + (open % 2 == 0 ? "" : "(");
            String closed = mixed + "A" + ")".repeat(open - open / 2);
            Checks.due(open + " of both", Checks.echo(new ConsYard(), closed), open <= 60 ? 0 : 4);
            String other = "'(".repeat(open / 2) + (open % 2 == 0 ? "A" : "'A");
            Checks.due(open + " of both", Checks.echo(new ConsYard(), other + ")".repeat(open / 2)), open <= 60 ? 0 : 4);
        }
        Checks.due("a ' in 60 lists", echo("(".repeat(60) + "'A"), "fault 4 at 60");
        Checks.due("a ' in 59 lists", Checks.echo(new ConsYard(), "(".repeat(59) + "'A" + ")".repeat(59)), 0);
        Checks.due("a ( in 60 quotes", echo("'".repeat(60) + "()"), "fault 4 at 60");
        Checks.due("a ( in 59 quotes", Checks.echo(new ConsYard(), "'".repeat(59) + "()"), 0);
    }

    /** FAULT 4: "(a ' till its S ends)". */
    private static void quoteIsOpenTillItsSEnds() {
        String lists = "(".repeat(59);
        String ends = ")".repeat(59);
        String[] taken = {"'A'B'C", "'A()'B", "'5'-5 5", "() 'A . 'B"};
        for (String text : taken) {
            Checks.due("in 59 lists " + text, Checks.echo(new ConsYard(), lists + text + ends), 0);
        }
        Checks.due("'() in 59 lists", echo(lists + "'()" + ends), "fault 4 at 60");
        Checks.due("'A'() in 59 lists", echo(lists + "'A'()" + ends), "fault 4 at 62");
        Checks.due("''A in 59 lists", echo(lists + "''A" + ends), "fault 4 at 60");
        String fewer = "(".repeat(58);
        Checks.due("'()'()''A in 58 lists", Checks.echo(new ConsYard(), fewer + "'()'()''A" + ")".repeat(58)), 0);
        Checks.due("'('A) in 58 lists", echo(fewer + "'('A)" + ")".repeat(58)), "fault 4 at 60");
        Checks.due("'(A 'B) in 58 lists", echo(fewer + "'(A 'B)" + ")".repeat(58)), "fault 4 at 62");
        Checks.due("''(A)()'A in 57 lists", Checks.echo(new ConsYard(), "(".repeat(57) + "''(A)()'A(())(''())" + ")".repeat(57)), 4);
        Checks.due("''(A)()'A in 57 lists", Checks.echo(new ConsYard(), "(".repeat(57) + "''(A)()'A(())('())" + ")".repeat(57)), 0);
    }

    /** FAULT 8: "a list's CELLS: at its )". */
    private static void memoryOfAList() {
        for (int cells = 0; cells <= 9; cells++) {
            String list = "(" + "A ".repeat(cells) + ")";
            String dotted = "(" + "A ".repeat(cells) + ". B )";
            Checks.due(cells + " CELLS in as many", faultIn(cells, list), 0);
            if (cells > 0) {
                Checks.due(cells + " CELLS in one less", echoIn(cells - 1, list), "fault 8 at " + (list.length() - 1));
                Checks.due(cells + " CELLS and a . in as many", faultIn(cells, dotted), 0);
                Checks.due(cells + " CELLS and a . in one less", echoIn(cells - 1, dotted), "fault 8 at " + (dotted.length() - 1));
            }
        }
        Checks.due("the inner list", echoIn(1, "(A (B C) D)"), "fault 8 at 7");
        Checks.due("the outer list", echoIn(4, "(A (B C) D)"), "fault 8 at 10");
        Checks.due("both", echoIn(5, "(A (B C) D)"), "(A (B C) D)");
        Checks.due("a list as the TAIL", echoIn(2, "(A . (B C) )"), "fault 8 at 11");
        Checks.due("a list as the TAIL", echoIn(1, "(A . (B C) )"), "fault 8 at 9");
        Checks.due("a list as the TAIL", echoIn(3, "(A . (B C) )"), "(A B C)");
        ConsYard yard = new ConsYard();
        Checks.define(yard, "F (A B)");
        yard.room(5);
        Checks.due("3 beside 2 by define", Checks.define(yard, "G (A B C)"), 0);
        Checks.due("1 beside 5 by eval", Checks.evalOutcome(yard, "(LIST)"), "fault 8 at 5");
        Checks.due("1 beside 5 by define", Checks.define(yard, "H (A)") + " " + yard.place(), "8 4");
    }

    /** FAULT 8: "those of ' S: at the first byte of the last token of S". */
    private static void memoryOfAQuote() {
        String[][] rows = {
            {"'ABC", "2", "1"}, {" ' \n ABC ", "2", "5"}, {"'-123", "2", "1"}, {"'()", "2", "2"}, {"'( )", "2", "3"}, {"''ABC", "4", "2"},
            {"'' ' ABC", "6", "5"}, {"''( \n)", "4", "5"}, {"'NIL", "2", "1"},
        };
        for (String[] row : rows) {
            int cells = Integer.parseInt(row[1]);
            Checks.due(row[0] + " in " + cells, faultIn(cells, row[0]), 0);
            for (int room = 0; room < cells; room++) {
                Checks.due(row[0] + " in " + room, echoIn(room, row[0]), "fault 8 at " + row[2]);
            }
        }
        Checks.due("'(A) in 0", echoIn(0, "'(A )"), "fault 8 at 4");
        Checks.due("'(A) in 1", echoIn(1, "'(A )"), "fault 8 at 4");
        Checks.due("'(A) in 2", echoIn(2, "'(A )"), "fault 8 at 4");
        Checks.due("'(A) in 3", echoIn(3, "'(A )"), "(QUOTE (A))");
        Checks.due("'('AB ) in 1", echoIn(1, "'('AB )"), "fault 8 at 3");
        Checks.due("'('AB ) in 2", echoIn(2, "'('AB )"), "fault 8 at 6");
        Checks.due("'('AB ) in 4", echoIn(4, "'('AB )"), "fault 8 at 6");
        Checks.due("'('AB ) in 5", echoIn(5, "'('AB )"), "(QUOTE ((QUOTE AB)))");
        Checks.due("the second quote", echoIn(3, "('AB 'CD E)"), "fault 8 at 6");
        Checks.due("their list", echoIn(6, "('AB 'CD E)"), "fault 8 at 10");
        Checks.due("all", echoIn(7, "('AB 'CD E)"), "((QUOTE AB) (QUOTE CD) E)");
        ConsYard yard = new ConsYard();
        yard.room(1);
        Checks.due("by define", Checks.define(yard, "F 'ABC") + " " + yard.place(), "8 3");
        Checks.due("by eval", Checks.evalOutcome(yard, "'ABC"), "fault 8 at 1");
    }

    /** "The CELLS of a list are made at its ), the last one first; those of ' S when S has been read". */
    private static void cellsAreMadeTheLastOneFirst() {
        for (int room = 0; room <= 6; room++) {
            ConsYard yard = new ConsYard();
            yard.room(room);
            Checks.echo(yard, "(A B C D)");
            Checks.due("of a list in ROOM " + room, yard.count(4), Math.min(room, 4));
            yard = new ConsYard();
            yard.room(room);
            Checks.echo(yard, "''A");
            Checks.due("of quotes in ROOM " + room, yard.count(4), Math.min(room, 4));
            yard = new ConsYard();
            yard.room(room);
            Checks.echo(yard, "((A) (B C");
            Checks.due("of what is closed in ROOM " + room, yard.count(4), Math.min(room, 1));
            yard = new ConsYard();
            yard.room(room);
            Checks.echo(yard, "('A 'B a");
            Checks.due("of what is quoted in ROOM " + room, yard.count(4), Math.min(room, 4));
        }
        ConsYard yard = new ConsYard();
        Checks.echo(yard, "'");
        Checks.echo(yard, "'(");
        Checks.echo(yard, "(A B C . D");
        Checks.due("none ahead of the S's end", yard.count(4), 0);
    }

    /** "the first that is met from the left": of any two FAULTS the left one is told. */
    private static void firstFaultFromTheLeft() {
        String[] texts = {"a", ELEVEN, "2147483648", "NEW", "(".repeat(60), "(T T T)", "('T)", ".", "-"};
        int[] faults = {1, 2, 2, 3, 4, 8, 8, 1, 1};
        int[] places = {0, 0, 0, 0, 59, 6, 3, 0, 0};
        ConsYard yard = new ConsYard();
        Checks.fillSymbols(yard, 300);
        yard.room(2);
        for (int k = 0; k < texts.length; k++) {
            for (String behind : texts) {
                String text = "(" + texts[k] + " " + behind;
                Checks.due("[" + text + "]", Checks.echoOutcome(yard, text), "fault " + faults[k] + " at " + (1 + places[k]));
                Checks.due("define [" + text + "]", Checks.define(yard, "S23 " + text) + " " + yard.place(), faults[k] + " " + (5 + places[k]));
                Checks.due("eval [" + text + "]", Checks.evalOutcome(yard, text), "fault " + faults[k] + " at " + (1 + places[k]));
            }
        }
    }

    /** PRINTED: "one blank between, no others. At most 2,000 bytes: what is more is left out." */
    private static void printedBytes() {
        String[] ends = {"", " A", " . A", " ABCDEFG", " ABCDEFGH", " ABCDEFGHI", " . ABCDE", " . ABCDEF", " . ABCDEFG", " -2147483648", " -1234567",
            " 12345678", " (A . B)", " (A . BC)", " (A . BCD)", " ()"};
        for (int quotes = 198; quotes <= 201; quotes++) {
            for (String end : ends) {
                ConsYard yard = new ConsYard();
                yard.room(2000);
                String printed = "(" + "(QUOTE A) ".repeat(quotes - 1) + "(QUOTE A)" + end.replace("()", "NIL") + ")";
                String due = printed.substring(0, Math.min(2000, printed.length()));
                Checks.due(printed.length() + " bytes by echo", Checks.echoOutcome(yard, "(" + "'A".repeat(quotes) + end + ")"), due);
                Checks.due("as many on the PAGE", yard.count(5), due.length());
                Checks.define(yard, "CAR (" + "'A".repeat(quotes) + end + ")");
                Checks.due("by function", yard.function(8), due.length());
                Checks.due("these", Checks.page(yard), due);
                Checks.due("by eval", Checks.evalOutcome(yard, "'(" + "'A".repeat(quotes) + end + ")"), due);
            }
        }
    }
}
