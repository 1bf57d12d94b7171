/** Promise 5, with the texts of the Terms: an S alone is read and PRINTED, or the text's FAULT is told. */
final class Promise05EchoTest {
    public static void main(String[] args) {
        printsWhatItRead();
        tellsFaults();
        endsWithItsLength();
        goesSixtyDeep();
        knowsThreeHundredSymbols();
        cutsThePage();
        throwsForAWrongLength();
        Checks.finish("Promise05EchoTest");
    }

    private static void printsWhatItRead() {
        String[][] texts = {
            {"A", "A"}, {" \n A1B2 \n", "A1B2"}, {"ABCDEFGHIJ", "ABCDEFGHIJ"}, {"0", "0"}, {"-0", "0"}, {"007", "7"}, {"-12", "-12"},
            {"2147483647", "2147483647"}, {"-2147483648", "-2147483648"}, {"000000000000000000000000000001", "1"},
            {"-00000000002147483648", "-2147483648"}, {"1000000000", "1000000000"}, {"10", "10"}, {"()", "NIL"}, {"( \n )", "NIL"},
            {"(())", "(NIL)"}, {"(A)", "(A)"}, {"(A B)", "(A B)"}, {"(A . B)", "(A . B)"}, {"(A.B)", "(A . B)"}, {"(A . NIL)", "(A)"},
            {"(A . ())", "(A)"}, {"(A . (B))", "(A B)"}, {"(A B . (C . D))", "(A B C . D)"}, {"((A . B) . C)", "((A . B) . C)"},
            {"((A))", "((A))"}, {"(A (B (C)) D)", "(A (B (C)) D)"}, {"'A", "(QUOTE A)"}, {"''A", "(QUOTE (QUOTE A))"},
            {"' A", "(QUOTE A)"}, {"'()", "(QUOTE NIL)"}, {"'(A 'B)", "(QUOTE (A (QUOTE B)))"}, {"(A . 'B)", "(A QUOTE B)"},
            {"('A . B)", "((QUOTE A) . B)"}, {"(A'B)", "(A (QUOTE B))"}, {"(1A2B)", "(1 A2B)"}, {"(1-2-3)", "(1 -2 -3)"},
            {"(A-1)", "(A -1)"}, {"(A)", "(A)"}, {"((A)(B)C)", "((A) (B) C)"}, {"(1.2)", "(1 . 2)"}, {"(1 .-2)", "(1 . -2)"},
            {"(CAR X)", "(CAR X)"}, {"NIL", "NIL"}, {"(NIL . NIL)", "(NIL)"}, {"(QUOTE . A)", "(QUOTE . A)"},
        };
        for (String[] row : texts) {
            ConsYard yard = new ConsYard();
            Checks.due("echo [" + row[0] + "]", Checks.echoOutcome(yard, row[0]), row[1]);
            Checks.due("place", yard.place(), ConsYard.NONE);
            Checks.due("bytes", yard.count(5), row[1].length());
            Checks.due("no FUEL", yard.count(2), 0);
            Checks.due("the TAPE is empty then", yard.count(6), 0);
        }
    }

    private static void tellsFaults() {
        String[][] texts = {
            {"", "1 0"}, {"  ", "1 2"}, {"(", "1 1"}, {"(A ", "1 3"}, {"'", "1 1"}, {"(A . ", "1 5"}, {"(A . B", "1 6"}, {"(A .", "1 4"},
            {")", "1 0"}, {".", "1 0"}, {"A)", "1 1"}, {"A B", "1 2"}, {"A 'B", "1 2"}, {"A (", "1 2"}, {"() ()", "1 3"}, {"(.A)", "1 1"},
            {"(A .)", "1 4"}, {"(A . . B)", "1 5"}, {"(A . B . C)", "1 7"}, {"(A . B C)", "1 7"}, {"(A . B (C))", "1 7"},
            {"(A . B 'C)", "1 7"}, {"(A . B 1)", "1 7"}, {"')", "1 1"}, {"'.", "1 1"}, {"(')", "1 2"}, {"(A '.)", "1 4"}, {"('. A)", "1 2"},
            {"a", "1 0"}, {"(Ab)", "1 2"}, {"A\t", "1 1"}, {"\r", "1 0"}, {"(A,B)", "1 2"}, {"+1", "1 0"}, {"-", "1 0"}, {"(-)", "1 1"},
            {"- 1", "1 0"}, {"--1", "1 0"}, {"-A", "1 0"}, {"(1-)", "1 2"}, {"1A", "1 1"}, {"1-1", "1 1"}, {"A-1", "1 1"}, {"A'B", "1 1"},
            {"ABCDEFGHIJK", "2 0"}, {"(A ABCDEFGHIJK", "2 3"}, {"'ABCDEFGHIJ1", "2 1"}, {"2147483648", "2 0"}, {"-2147483649", "2 0"},
            {"(1 -21474836480)", "2 3"}, {"(99999999999999999999999999)", "2 1"}, {"4294967297", "2 0"},
            {"18446744073709551617", "2 0"}, {"A ABCDEFGHIJK", "1 2"}, {"A 2147483648", "1 2"}, {"(A . B ABCDEFGHIJK)", "1 7"},
            {"(ABCDEFGHIJKL a", "2 1"}, {"(a ABCDEFGHIJKL", "1 1"}, {"(A . ABCDEFGHIJKL", "2 5"},
        };
        for (String[] row : texts) {
            ConsYard yard = new ConsYard();
            Checks.echo(yard, "(X Y)");
            int fault = Checks.echo(yard, row[0]);
            Checks.due("echo [" + row[0] + "]", fault + " " + yard.place(), row[1]);
            Checks.due("the PAGE is empty then", yard.count(5), 0);
            Checks.due("the TAPE is empty then", yard.count(6), 0);
        }
        ConsYard yard = new ConsYard();
        Checks.echo(yard, "(A B ABCDEFGHIJK C)");
        Checks.due("SYMBOLS ahead of the FAULT stay, no others come", yard.count(0), 25);
        Checks.echo(yard, "(P . Q R)");
        Checks.due("nor one that can't stand there", yard.count(0), 27);
    }

    /** What stands on the TAPE behind the first n bytes is no part of the text. */
    private static void endsWithItsLength() {
        Object[][] texts = {
            {"ABC", 2, "AB"}, {"ABCDEFGHIJK", 10, "ABCDEFGHIJ"}, {"123", 2, "12"}, {"21474836470", 10, "2147483647"}, {"-123", 3, "-12"},
            {"(-5)", 2, "fault 1 at 1"}, {"-5", 1, "fault 1 at 0"}, {"(A)", 2, "fault 1 at 2"}, {"'A", 1, "fault 1 at 1"},
            {"A)", 1, "A"}, {"   A", 3, "fault 1 at 3"}, {"A", 0, "fault 1 at 0"},
        };
        for (Object[] row : texts) {
            ConsYard yard = new ConsYard();
            Checks.feed(yard, (String) row[0]);
            Checks.due("echo(" + row[1] + ") of " + row[0], Checks.outcome(yard, yard.echo((Integer) row[1])), (String) row[2]);
            Checks.due("the whole TAPE is empty then", yard.count(6), 0);
        }
        ConsYard yard = new ConsYard();
        Checks.feed(yard, " F A");
        Checks.due("define(1)", yard.define(1) + " " + yard.place(), "1 1");
        Checks.feed(yard, "FG A");
        Checks.due("define(1)", yard.define(1) + " " + yard.place(), "1 1");
        Checks.due("the SYMBOL F", yard.count(0), 24);
    }

    private static void goesSixtyDeep() {
        String deep = "(".repeat(60) + "A" + ")".repeat(60);
        String filled = "(X ".repeat(60) + "A" + ")".repeat(60);
        Checks.due("60 lists with more in them", Checks.echoOutcome(new ConsYard(), filled), filled);
        Checks.due("60 lists", Checks.echoOutcome(new ConsYard(), deep), deep);
        Checks.due("61 lists", Checks.echoOutcome(new ConsYard(), "(" + deep + ")"), "fault 4 at 60");
        String quotes = "'".repeat(60);
        Checks.due("60 quotes", Checks.echoOutcome(new ConsYard(), quotes + "A"), "(QUOTE ".repeat(60) + "A" + ")".repeat(60));
        Checks.due("61 quotes", Checks.echoOutcome(new ConsYard(), " '" + quotes + "A"), "fault 4 at 61");
        Checks.due("a quote in 60 lists", Checks.echoOutcome(new ConsYard(), "(".repeat(60) + "'A"), "fault 4 at 60");
        Checks.due("a list in 60 quotes", Checks.echoOutcome(new ConsYard(), quotes + "(A)"), "fault 4 at 60");
        Checks.due("61 unclosed ones end early", Checks.echoOutcome(new ConsYard(), "(".repeat(60)), "fault 1 at 60");
        String many = "(" + "'A (B) ".repeat(100) + ")";
        Checks.due("not open at one time", Checks.echo(new ConsYard(), many), 0);
        String ended = "(".repeat(59) + "'A '(B)" + ")".repeat(59);
        Checks.due("a ' is open till its S ends", Checks.echoOutcome(new ConsYard(), ended), "fault 4 at 63");
        String endedWell = "(".repeat(58) + "'A '(B) ''C" + ")".repeat(58);
        Checks.due("a ' ends with its S", Checks.echo(new ConsYard(), endedWell), 0);
        Checks.due("where no S can stand", Checks.echoOutcome(new ConsYard(), "(".repeat(60) + "A . B ("), "fault 1 at 66");
    }

    private static void knowsThreeHundredSymbols() {
        ConsYard yard = new ConsYard();
        for (int k = 23; k < 299; k++) {
            Checks.due("SYMBOL " + k, Checks.echo(yard, "S" + k), 0);
        }
        Checks.due("299 SYMBOLS", yard.count(0), 299);
        Checks.due("two more", Checks.echoOutcome(yard, "(S23 LAST  MORE)"), "fault 3 at 11");
        Checks.due("one came", yard.count(0), 300);
        Checks.due("known ones are read", Checks.echoOutcome(yard, "(S23 S298 LAST NIL)"), "(S23 S298 LAST NIL)");
        Checks.due("too long a one", Checks.echoOutcome(yard, "ABCDEFGHIJK"), "fault 2 at 0");
        Checks.due("one that can't stand there", Checks.echoOutcome(yard, "LAST MORE"), "fault 1 at 5");
        Checks.due("define a 301st", Checks.define(yard, " MORE A"), 3);
        Checks.due("its place", yard.place(), 1);
        Checks.due("eval a 301st", Checks.evalOutcome(yard, "'MORE"), "fault 3 at 1");
        Checks.due("define the last one", Checks.define(yard, "LAST A"), 3);
        Checks.due("define the last one", Checks.define(yard, "LAST (S23)"), 0);
        Checks.due("function(299)", yard.function(299), 5);
        Checks.due("function(300)", yard.function(300), ConsYard.NONE);
        Checks.due("300 SYMBOLS", yard.count(0), 300);
    }

    private static void cutsThePage() {
        ConsYard yard = new ConsYard();
        String list = "(" + "A ".repeat(998) + "A)";
        Checks.due("1999 bytes", Checks.echoOutcome(yard, list), list);
        yard.room(2000);
        String quotes = "(" + "'A".repeat(200) + ")";
        Checks.due("a long one", Checks.echo(yard, quotes), 0);
        String whole = "(" + "(QUOTE A) ".repeat(199) + "(QUOTE A))";
        Checks.due("2001 bytes, cut", Checks.page(yard), whole.substring(0, 2000));
        Checks.due("2000 bytes", yard.count(5), 2000);
        Checks.due("octet(1999)", yard.octet(1999), whole.charAt(1999));
        Checks.due("octet(2000)", yard.octet(2000), ConsYard.NONE);
    }

    private static void throwsForAWrongLength() {
        ConsYard yard = new ConsYard();
        Checks.echo(yard, "(A");
        Checks.feed(yard, "(A)");
        Checks.throwsIllegalArgument("echo(21)", () -> yard.echo(21));
        Checks.throwsIllegalArgument("echo(-1)", () -> yard.echo(-1));
        Checks.throwsIllegalArgument("echo(least)", () -> yard.echo(Integer.MIN_VALUE));
        Checks.due("the TAPE stays", yard.count(6), 20);
        Checks.due("the place stays", yard.place(), 2);
        Checks.due("echo(3)", yard.echo(3), 0);
    }
}
