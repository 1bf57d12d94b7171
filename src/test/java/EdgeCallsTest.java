/**
 * The boundary cases of the promises' own sentences, each in a method of its own: the last that is
 * taken, the first that is not, the least and the largest int; and what a refused call leaves alone.
 */
final class EdgeCallsTest {
    private static final int LEAST = Integer.MIN_VALUE;
    private static final int LARGEST = Integer.MAX_VALUE;
    private static final int BLANKS = 0x20202020;

    public static void main(String[] args) {
        newObject();
        feedTakesTwentyBytes();
        feedTakesAnyInt();
        feedRefusesMoreThanTwoThousand();
        defineTakesTheFirstBytes();
        defineRefusesLengths();
        defineRefusesNames();
        defineRefusesWhatIsNoSymbol();
        defineWithAFaultDefinesNothing();
        defineReplacesWhateverItHad();
        evalTakesTheFirstBytes();
        evalRefusesLengths();
        evalRefusesFuel();
        evalWithAFaultEmptiesThePage();
        echoRefusesLengths();
        echoWithAFaultEmptiesThePage();
        placeIsOfTheLatestOfThree();
        roomRefusesNumbers();
        roomStaysIfFunctionsHaveMore();
        countIsNoneForOthers();
        countOfTheLatestEval();
        functionIsNoneWithoutOne();
        octetIsNoneBesideThePage();
        theLastOfManyCalls();
        Checks.finish("EdgeCallsTest");
    }

    /** A run of calls behind which something stands everywhere: functions, PAGE, TAPE, place, FUEL, FRAMES. */
    private static Twins used() {
        return new Twins().both(y -> Checks.define(y, "F (LAMBDA (X) (CONS X X))")).both(y -> Checks.define(y, "LIST CDR"))
                .both(y -> y.room(40)).both(y -> Checks.eval(y, "(F 'ABC)", 100)).both(y -> Checks.define(y, "G )"))
                .both(y -> Checks.feed(y, "(TAPE . 'T)"));
    }

    /** Promise 1: "No functions; an empty TAPE, an empty PAGE." */
    private static void newObject() {
        ConsYard yard = new ConsYard();
        Checks.due("new", Checks.state(yard), "counts 23 0 0 0 0 0 0 1000 0, place -1, PAGE []");
        for (int k : new int[] {LEAST, -1, 0, 8, 22, 23, 299, 300, LARGEST}) {
            Checks.due("new: function(" + k + ")", yard.function(k), -1);
            Checks.due("new: octet(" + k + ")", yard.octet(k), -1);
        }
        for (int n : new int[] {LEAST, -1, 1, 20, 2000, LARGEST}) {
            Checks.due("new: define(" + n + ")", Twins.answer(yard, y -> y.define(n)), Twins.THROWS);
            Checks.due("new: echo(" + n + ")", Twins.answer(yard, y -> y.echo(n)), Twins.THROWS);
            Checks.due("new: eval(" + n + ", 1)", Twins.answer(yard, y -> y.eval(n, 1)), Twins.THROWS);
        }
        Checks.due("still new", Checks.state(yard), "counts 23 0 0 0 0 0 0 1000 0, place -1, PAGE []");
        Checks.due("new: define(0)", new ConsYard().define(0), 1);
        Checks.due("new: echo(0)", new ConsYard().echo(0), 1);
        Checks.due("new: eval(0, 0)", new ConsYard().eval(0, 0), 1);
        Checks.due("new: room(0)", new ConsYard().room(0), 0);
        Checks.due("another is new besides", Checks.state(new ConsYard()), "counts 23 0 0 0 0 0 0 1000 0, place -1, PAGE []");
    }

    /** Promise 2: "Twenty bytes come on the TAPE, of each number the highest first". */
    private static void feedTakesTwentyBytes() {
        for (int at = 0; at < 20; at++) {
            int[] words = {BLANKS, BLANKS, BLANKS, BLANKS, BLANKS};
            int shift = 24 - at % 4 * 8;
            words[at / 4] = words[at / 4] & ~(255 << shift) | 'Q' << shift;
            ConsYard yard = new ConsYard();
            Checks.due("a Q as byte " + at, yard.feed(words[0], words[1], words[2], words[3], words[4]), 20);
            Checks.due("to it", Checks.outcome(yard, yard.echo(at + 1)), "Q");
            yard.feed(words[0], words[1], words[2], words[3], words[4]);
            Checks.due("up to it", Checks.outcome(yard, yard.echo(at)), "fault 1 at " + at);
        }
    }

    /** Promise 2, with the least and the largest ints: their bytes are 128 0 0 0 and 127 255 255 255. */
    private static void feedTakesAnyInt() {
        int[] numbers = {LEAST, LARGEST, -1, 0, 1};
        for (int number : numbers) {
            ConsYard yard = new ConsYard();
            Checks.due("feed of " + number, yard.feed(number, number, number, number, number), 20);
            Checks.due("no byte of texts", yard.echo(20) + " " + yard.place(), "1 0");
            Checks.due("behind blanks", yard.feed(BLANKS, BLANKS, BLANKS, BLANKS, number), 20);
            Checks.due("no byte of texts", yard.echo(20) + " " + yard.place(), "1 16");
        }
        ConsYard yard = new ConsYard();
        yard.feed(0x202020C1, 0x41202020, BLANKS, BLANKS, BLANKS);
        Checks.due("a letter with its eighth bit", yard.echo(20) + " " + yard.place(), "1 3");
        yard.feed(0x414142BF, BLANKS, BLANKS, BLANKS, BLANKS);
        Checks.due("ahead of it", Checks.outcome(yard, yard.echo(3)), "AAB");
    }

    /** Promise 2: "how many there are; NONE, doing nothing, if there would be more than 2,000." */
    private static void feedRefusesMoreThanTwoThousand() {
        Twins twins = used().both(y -> y.echo(2));
        for (int k = 1; k <= 100; k++) {
            int word = k == 1 ? 0x2841202E : k == 100 ? 0x20204229 : BLANKS;
            int bytes = k * 20;
            twins.both(y -> {
                int answer = y.feed(wordWhen(bytes == 20, word), BLANKS, BLANKS, BLANKS, wordWhen(bytes == 2000, word));
                Checks.due("feed " + bytes, answer, bytes);
                return answer;
            });
        }
        twins.refused("feed beyond 2,000", y -> y.feed(BLANKS, BLANKS, BLANKS, BLANKS, BLANKS), "-1");
        twins.refused("feed of the least", y -> y.feed(LEAST, LEAST, LEAST, LEAST, LEAST), "-1");
        twins.refused("feed of the largest", y -> y.feed(LARGEST, LARGEST, LARGEST, LARGEST, LARGEST), "-1");
        twins.stayTheSame("feed that was refused");
        ConsYard yard = new ConsYard();
        for (int k = 0; k < 100; k++) {
            yard.feed(BLANKS, BLANKS, BLANKS, BLANKS, BLANKS);
        }
        Checks.due("a 101st", yard.feed(0, 0, 0, 0, 0), -1);
        yard.echo(0);
        Checks.due("the TAPE is empty then, and takes again", yard.feed(0, 0, 0, 0, 0), 20);
    }

    private static int wordWhen(boolean due, int word) {
        return due ? word : BLANKS;
    }

    /** Promise 3: "The first n bytes of the TAPE (empty then) are a SYMBOL and an S". */
    private static void defineTakesTheFirstBytes() {
        ConsYard yard = new ConsYard();
        Checks.feed(yard, "F AB )");
        Checks.due("define(3)", yard.define(3), 0);
        Checks.due("the TAPE is empty then", yard.count(6), 0);
        Checks.due("F has what stood in 3 bytes", yard.function(23) + Checks.page(yard), "1A");
        Checks.feed(yard, "F AB )");
        Checks.due("define(4)", yard.define(4), 0);
        Checks.due("F has what stood in 4 bytes", yard.function(23) + Checks.page(yard), "2AB");
        Checks.feed(yard, "F AB )");
        Checks.due("define(6)", yard.define(6) + " " + yard.place(), "1 5");
        Checks.feed(yard, "F AB )");
        Checks.due("define(2)", yard.define(2) + " " + yard.place(), "1 2");
        Checks.feed(yard, "F AB )");
        Checks.due("define(0)", yard.define(0) + " " + yard.place(), "1 0");
        Checks.due("the TAPE is empty then", yard.count(6), 0);
    }

    /** Promise 3: "IllegalArgumentException: n is not 0 to the TAPE's bytes." */
    private static void defineRefusesLengths() {
        Twins twins = used();
        for (int n : new int[] {LEAST, -2001, -20, -1, 21, 22, 40, 2000, 2001, LARGEST}) {
            twins.refused("define(" + n + ")", y -> y.define(n), Twins.THROWS);
        }
        twins.stayTheSame("define that throws");
        ConsYard yard = new ConsYard();
        Checks.feed(yard, "F A");
        Checks.due("define(20)", yard.define(20), 0);
        Checks.due("define(1) of no TAPE", Twins.answer(yard, y -> y.define(1)), Twins.THROWS);
        Checks.feed(yard, "F A" + " ".repeat(1997));
        Checks.due("define(2001)", Twins.answer(yard, y -> y.define(2001)), Twins.THROWS);
        Checks.due("define(2000)", yard.define(2000), 0);
    }

    /** Promise 3: "NIL, T and those up to FUNARG may not have one: 1 at it." */
    private static void defineRefusesNames() {
        String[] names = {"NIL", "T", "QUOTE", "COND", "FUNCTION", "LAMBDA", "LABEL", "FUNARG"};
        for (String name : names) {
            ConsYard yard = new ConsYard();
            Checks.due("define " + name, Checks.define(yard, "\n " + name + " NEW") + " " + yard.place(), "1 2");
            Checks.due("nothing else", Checks.state(yard), "counts 23 0 0 0 0 0 0 1000 0, place 2, PAGE []");
        }
        String[] others = {"CAR", "CDR", "CONS", "ATOM", "EQ", "NULL", "LIST", "EVAL", "NUMBERP", "PLUS", "DIFFERENCE", "TIMES",
            "QUOTIENT", "REMAINDER", "LESSP", "FUNARGS", "NI", "TT", "FUNAR"};
        for (int k = 0; k < others.length; k++) {
            ConsYard yard = new ConsYard();
            Checks.due("define " + others[k], Checks.define(yard, others[k] + " 'A"), 0);
            Checks.due("functions", yard.count(8), 1);
            Checks.due("SYMBOL " + Math.min(8 + k, 23), yard.function(Math.min(8 + k, 23)) + Checks.page(yard), "9(QUOTE A)");
        }
    }

    /** Promise 3: "At the first: 1 at what is no SYMBOL". */
    private static void defineRefusesWhatIsNoSymbol() {
        String[] texts = {"(F) A", "() A", ") A", ". A", "'F A", "5 A", "-5 A", "- A", "2147483647 A", "2147483648 A", "f A", "\t A", "\u00ff A"};
        for (String text : texts) {
            ConsYard yard = new ConsYard();
            Checks.due("define [" + text + "]", Checks.define(yard, text) + " " + yard.place(), "1 0");
            Checks.due("nothing else", Checks.state(yard), "counts 23 0 0 0 0 0 0 1000 0, place 0, PAGE []");
            Checks.due("behind blanks", Checks.define(yard, " \n " + text) + " " + yard.place(), "1 3");
        }
        ConsYard yard = new ConsYard();
        Checks.due("no token at all", Checks.define(yard, " \n ") + " " + yard.place(), "1 3");
        Checks.due("ten signs", Checks.define(yard, "ABCDEFGHIJ 1"), 0);
        Checks.due("eleven signs", Checks.define(yard, "ABCDEFGHIJK 1") + " " + yard.place(), "2 0");
        Checks.due("functions", yard.count(8), 1);
    }

    /** Promise 3: "or its FAULT, and nothing is defined (SYMBOLS stay)." */
    private static void defineWithAFaultDefinesNothing() {
        ConsYard yard = new ConsYard();
        Checks.define(yard, "F (A B)");
        Checks.echo(yard, "(OLD)");
        Checks.due("FAULT 1", Checks.define(yard, "G (C (D) E") + " " + yard.place(), "1 10");
        Checks.due("G C D E stay, G has nothing", Checks.state(yard), "counts 31 2 0 0 4 5 0 1000 1, place 10, PAGE [(OLD)]");
        Checks.due("FAULT 1 of F", Checks.define(yard, "F (C D) E") + " " + yard.place(), "1 8");
        Checks.due("F has its own", Checks.state(yard), "counts 31 2 0 0 6 5 0 1000 1, place 8, PAGE [(OLD)]");
        Checks.due("FAULT 2", Checks.define(yard, "F (C ABCDEFGHIJK)") + " " + yard.place(), "2 5");
        Checks.due("FAULT 4", Checks.define(yard, "F " + "(".repeat(61)) + " " + yard.place(), "4 62");
        yard.room(4);
        Checks.due("FAULT 8", Checks.define(yard, "F (C D E)") + " " + yard.place(), "8 8");
        Checks.due("its CELLS are made and gone", Checks.state(yard), "counts 31 2 0 0 8 5 0 4 1, place 8, PAGE [(OLD)]");
        Checks.due("as many as there is ROOM for", Checks.define(yard, "F (C D)"), 0);
        Checks.due("F has these", Checks.state(yard), "counts 31 2 0 0 10 5 0 4 1, place -1, PAGE [(OLD)]");
        Checks.fillSymbols(yard, 300);
        Checks.due("FAULT 3", Checks.define(yard, "F (C NEW)") + " " + yard.place(), "3 5");
        Checks.due("FAULT 3 of the name", Checks.define(yard, "NEW C") + " " + yard.place(), "3 0");
        Checks.due("F has its own", yard.function(23) + Checks.page(yard), "5(C D)");
        Checks.due("functions", yard.count(8), 1);
    }

    /** Promise 3: "that is its function (whatever it had): 0". */
    private static void defineReplacesWhateverItHad() {
        ConsYard yard = new ConsYard();
        String[] bodies = {"(A B C)", "5", "F", "NIL", "-2147483648", "2147483647", "'F", "()"};
        for (String body : bodies) {
            Checks.due("define F " + body, Checks.define(yard, "F " + body), 0);
            Checks.due("one function", yard.count(8), 1);
            yard.function(23);
            String printed = Checks.page(yard);
            Checks.due("F", Checks.echoOutcome(yard, body), printed);
        }
        Checks.due("no CELLS are kept of the others", yard.count(1), 0);
    }

    /** Promise 4: "The first n bytes of the TAPE (empty then) are an S". */
    private static void evalTakesTheFirstBytes() {
        ConsYard yard = new ConsYard();
        String[] due = {"fault 1 at 0", "1", "12", "12", "fault 1 at 3"};
        for (int n = 0; n < due.length; n++) {
            Checks.feed(yard, "12 )");
            Checks.due("eval(" + n + ", 9)", Checks.outcome(yard, yard.eval(n, 9)), due[n]);
            Checks.due("the TAPE is empty then", yard.count(6), 0);
        }
    }

    /** Promise 4: "IllegalArgumentException: n likewise". */
    private static void evalRefusesLengths() {
        Twins twins = used();
        for (int n : new int[] {LEAST, -2001, -20, -1, 21, 22, 40, 2000, 2001, LARGEST}) {
            twins.refused("eval(" + n + ", 100)", y -> y.eval(n, 100), Twins.THROWS);
            twins.refused("eval(" + n + ", -1)", y -> y.eval(n, -1), Twins.THROWS);
            twins.refused("eval(" + n + ", least)", y -> y.eval(n, LEAST), Twins.THROWS);
            twins.refused("eval(" + n + ", largest)", y -> y.eval(n, LARGEST), Twins.THROWS);
        }
        twins.stayTheSame("eval that throws for n");
        ConsYard yard = new ConsYard();
        Checks.feed(yard, "7");
        Checks.due("eval(20, 9)", yard.eval(20, 9), 0);
        Checks.due("eval(1, 9) of no TAPE", Twins.answer(yard, y -> y.eval(1, 9)), Twins.THROWS);
        Checks.feed(yard, " ".repeat(1999) + "7");
        Checks.due("eval(2001, 9)", Twins.answer(yard, y -> y.eval(2001, 9)), Twins.THROWS);
        Checks.due("eval(2000, 9)", Checks.outcome(yard, yard.eval(2000, 9)), "7");
    }

    /** Promise 4: "or the FUEL is not 0 to 20,000." */
    private static void evalRefusesFuel() {
        Twins twins = used();
        for (int fuel : new int[] {LEAST, -20000, -1, 20001, 20002, LARGEST}) {
            twins.refused("eval(11, " + fuel + ")", y -> y.eval(11, fuel), Twins.THROWS);
            twins.refused("eval(0, " + fuel + ")", y -> y.eval(0, fuel), Twins.THROWS);
        }
        twins.stayTheSame("eval that throws for FUEL");
        ConsYard yard = new ConsYard();
        Checks.due("FUEL 0 is taken", Checks.eval(yard, "7", 0), 7);
        Checks.due("FUEL 20,000 is taken", Checks.eval(yard, "7", 20000), 0);
        Checks.due("FUEL 0 and a FAULT of the text", Checks.eval(yard, ")", 0), 1);
    }

    /** Promise 4: "or its FAULT (the PAGE is empty then)." */
    private static void evalWithAFaultEmptiesThePage() {
        ConsYard yard = new ConsYard();
        Checks.define(yard, "F (A B)");
        Checks.eval(yard, "(LIST 'OLD)", 20);
        Checks.due("FAULT of the text", Checks.eval(yard, "(NEW (A B) .)", 20) + " " + yard.place(), "1 12");
        Checks.due("all", Checks.state(yard), "counts 28 2 0 0 9 0 0 1000 1, place 12, PAGE []");
        Checks.eval(yard, "(LIST 'OLD)", 20);
        Checks.due("FAULT of the machine", Checks.eval(yard, "(LIST A)", 20), 6);
        Checks.due("all", Checks.state(yard), "counts 28 2 2 1 16 0 0 1000 1, place -1, PAGE []");
        Checks.eval(yard, "(LIST 'OLD)", 20);
        Checks.due("all", Checks.state(yard), "counts 28 2 5 1 21 5 0 1000 1, place -1, PAGE [(OLD)]");
    }

    /** Promise 5: n likewise, "An S alone is read". */
    private static void echoRefusesLengths() {
        Twins twins = used();
        for (int n : new int[] {LEAST, -2001, -20, -1, 21, 22, 40, 2000, 2001, LARGEST}) {
            twins.refused("echo(" + n + ")", y -> y.echo(n), Twins.THROWS);
        }
        twins.stayTheSame("echo that throws");
        ConsYard yard = new ConsYard();
        Checks.feed(yard, "A");
        Checks.due("echo(20)", yard.echo(20), 0);
        Checks.due("echo(1) of no TAPE", Twins.answer(yard, y -> y.echo(1)), Twins.THROWS);
        Checks.feed(yard, " ".repeat(1999) + "A");
        Checks.due("echo(2001)", Twins.answer(yard, y -> y.echo(2001)), Twins.THROWS);
        Checks.due("echo(2000)", Checks.outcome(yard, yard.echo(2000)), "A");
        Checks.feed(yard, " ".repeat(1999) + "A");
        Checks.due("echo(1999)", Checks.outcome(yard, yard.echo(1999)), "fault 1 at 1999");
    }

    /** Promise 5: "0, or its FAULT, likewise." */
    private static void echoWithAFaultEmptiesThePage() {
        ConsYard yard = new ConsYard();
        Checks.eval(yard, "(LIST 1 2)", 20);
        Checks.due("a FAULT", Checks.echo(yard, "(A B) C") + " " + yard.place(), "1 6");
        Checks.due("FUEL and FRAMES are eval()'s", Checks.state(yard), "counts 25 0 7 1 7 0 0 1000 0, place 6, PAGE []");
        Checks.due("no FAULT", Checks.echo(yard, "(A B)"), 0);
        Checks.due("nothing is EVALUATED", Checks.state(yard), "counts 25 0 7 1 9 5 0 1000 0, place -1, PAGE [(A B)]");
    }

    /** Promise 6: "of the latest call of these three; NONE without one, and of FAULTS of the machine." */
    private static void placeIsOfTheLatestOfThree() {
        Twins.Call[] faulty = {y -> Checks.define(y, "F A B"), y -> Checks.eval(y, "(A)))", 9), y -> Checks.echo(y, "(A))")};
        int[] places = {4, 3, 3};
        Twins.Call[] good = {y -> Checks.define(y, "F A"), y -> Checks.eval(y, "1", 9), y -> Checks.echo(y, "A"),
            y -> Checks.eval(y, "(CAR)", 9), y -> Checks.eval(y, "(CAR 1)", 0)};
        for (int k = 0; k < faulty.length; k++) {
            for (Twins.Call next : good) {
                ConsYard yard = new ConsYard();
                Checks.due("ahead of any", yard.place(), -1);
                Checks.due("its FAULT", faulty[k].on(yard), 1);
                Checks.due("its place", yard.place(), places[k]);
                next.on(yard);
                Checks.due("none then", yard.place(), -1);
            }
        }
        ConsYard yard = new ConsYard();
        Checks.due("the least place", Checks.echoOutcome(yard, ")"), "fault 1 at 0");
        Checks.due("the largest place of a byte", Checks.echoOutcome(yard, " ".repeat(1999) + ")"), "fault 1 at 1999");
        Checks.due("the largest place of a length", Checks.echoOutcome(yard, " ".repeat(2000)), "fault 1 at 2000");
    }

    /** Promise 7: "IllegalArgumentException: n is not 0 to 2,000." */
    private static void roomRefusesNumbers() {
        Twins twins = used();
        for (int n : new int[] {LEAST, -2000, -1, 2001, 2002, LARGEST}) {
            twins.refused("room(" + n + ")", y -> y.room(n), Twins.THROWS);
        }
        twins.stayTheSame("room that throws");
        ConsYard yard = new ConsYard();
        for (int n : new int[] {0, 1, 999, 1000, 1001, 1999, 2000, 0}) {
            Checks.due("room(" + n + ")", yard.room(n), 0);
            Checks.due("ROOM", yard.count(7), n);
        }
    }

    /** Promise 7: "how many CELLS are REACHED by the functions; NONE, and it stays, if these are more than n." */
    private static void roomStaysIfFunctionsHaveMore() {
        Twins twins = used();
        for (int n = 0; n < 7; n++) {
            int room = n;
            twins.refused("room(" + n + ") beside 7 CELLS", y -> y.room(room), "-1");
        }
        twins.both(y -> y.room(7)).refused("room(6)", y -> y.room(6), "-1").stayTheSame("room that was refused");
        ConsYard yard = new ConsYard();
        for (int cells = 0; cells <= 12; cells++) {
            Checks.define(yard, "F (" + "A ".repeat(cells) + ")");
            Checks.due("one more than " + cells, yard.room(cells + 1), cells);
            Checks.due("as many", yard.room(cells), cells);
            Checks.due("one less", Twins.answer(yard, y -> y.room(y.count(1) - 1)), cells == 0 ? Twins.THROWS : "-1");
            Checks.due("it stays", yard.count(7), cells);
            yard.room(2000);
        }
        Checks.eval(yard, "(LIST 1 2 3)", 20);
        Checks.due("answers are no functions", yard.room(12), 12);
    }

    /** Promise 8: "NONE for others". */
    private static void countIsNoneForOthers() {
        Twins twins = used();
        for (int what : new int[] {LEAST, -1000000, -2, -1, 9, 10, 255, 256, LARGEST}) {
            twins.refused("count(" + what + ")", y -> y.count(what), "-1");
        }
        twins.stayTheSame("count of others");
        ConsYard yard = new ConsYard();
        Checks.due("the first", yard.count(0), 23);
        Checks.due("the last", yard.count(8), 0);
    }

    /** Promise 8: "FUEL that the latest eval() took (0 ahead of any, and of one whose text had a FAULT), 3 the most FRAMES that it had". */
    private static void countOfTheLatestEval() {
        String[] faulty = {"(A", "ABCDEFGHIJK", "(".repeat(61), "(A B C D E F G H I J K L)", "", "NEW"};
        int[] faults = {1, 2, 4, 8, 1, 3};
        for (int k = 0; k < faulty.length; k++) {
            ConsYard yard = new ConsYard();
            Checks.due("ahead of any", yard.count(2) + yard.count(3), 0);
            Checks.eval(yard, "(LIST (LIST 1))", 20);
            Checks.due("FUEL", yard.count(2), 8);
            Checks.due("FRAMES", yard.count(3), 2);
            Checks.echo(yard, "(A B C D E F G H I J K L");
            Checks.fillSymbols(yard, 300);
            yard.room(10);
            Checks.due("calls of others leave it", yard.count(2) + " " + yard.count(3), "8 2");
            Checks.due("eval [" + faulty[k] + "]", Checks.eval(yard, faulty[k], 20), faults[k]);
            Checks.due("no FUEL, no FRAMES", yard.count(2) + " " + yard.count(3), "0 0");
        }
        ConsYard yard = new ConsYard();
        Checks.eval(yard, "(LIST (LIST 1))", 0);
        Checks.due("without FUEL", yard.count(2) + " " + yard.count(3), "0 0");
        Checks.eval(yard, "(LIST (LIST 1))", 1);
        Checks.due("with one", yard.count(2) + " " + yard.count(3), "1 1");
        Checks.eval(yard, "(LIST (LIST 1))", 2);
        Checks.due("with two", yard.count(2) + " " + yard.count(3), "2 2");
        Checks.eval(yard, "(LIST 1)", 20);
        Checks.due("of the latest one", yard.count(2) + " " + yard.count(3), "5 1");
        Checks.eval(yard, "1", 20);
        Checks.due("of the latest one", yard.count(2) + " " + yard.count(3), "2 0");
    }

    /** Promise 9: "how many bytes; NONE, and the PAGE stays, if it has none." */
    private static void functionIsNoneWithoutOne() {
        Twins twins = used();
        for (int k : new int[] {LEAST, -2, -1, 0, 1, 7, 8, 13, 15, 22, 24, 25, 26, 299, 300, 301, LARGEST}) {
            twins.refused("function(" + k + ")", y -> y.function(k), "-1");
        }
        twins.stayTheSame("function without one");
        ConsYard yard = new ConsYard();
        Checks.define(yard, "CAR A");
        Checks.fillSymbols(yard, 299);
        Checks.define(yard, "LAST CDR");
        Checks.due("300 SYMBOLS", yard.count(0), 300);
        Checks.due("the first that may have one", yard.function(8) + Checks.page(yard), "1A");
        Checks.due("the last", yard.function(299) + Checks.page(yard), "3CDR");
        Checks.due("the one ahead of it", yard.function(298) + Checks.page(yard), "-1CDR");
        Checks.due("the one behind it", yard.function(300) + Checks.page(yard), "-1CDR");
        Checks.due("the one ahead of the first", yard.function(7) + Checks.page(yard), "-1CDR");
    }

    /** Promise 10: "Byte k of the PAGE; NONE." */
    private static void octetIsNoneBesideThePage() {
        Twins twins = used();
        for (int k : new int[] {LEAST, -2000, -1, 11, 12, 1999, 2000, LARGEST}) {
            twins.refused("octet(" + k + ")", y -> y.octet(k), "-1");
        }
        twins.stayTheSame("octet beside the PAGE");
        ConsYard yard = new ConsYard();
        Checks.eval(yard, "(CONS 'ABC 'XYZ)", 20);
        Checks.due("the first", yard.octet(0), '(');
        Checks.due("the last", yard.octet(10), ')');
        Checks.due("the one behind it", yard.octet(11), -1);
        Checks.eval(yard, "T", 20);
        Checks.due("the only one", yard.octet(0), 'T');
        Checks.due("nothing of the PAGE ahead", yard.octet(1), -1);
        Checks.eval(yard, "A", 20);
        Checks.due("an empty PAGE", yard.octet(0), -1);
        yard.room(2000);
        Checks.echo(yard, "(" + "'A".repeat(300) + ")");
        Checks.due("the last of a full PAGE", yard.octet(1999), ("(" + "(QUOTE A) ".repeat(200)).charAt(1999));
        Checks.due("the one behind it", yard.octet(2000), -1);
    }

    /** "An object is used for at most 512 calls": the last of them is as right as the first. */
    private static void theLastOfManyCalls() {
        ConsYard yard = new ConsYard();
        yard.room(6);
        int calls = 1;
        for (; calls + 5 <= 512; calls += 5) {
            yard.feed(0x284C4953, 0x54203120, 0x32202020, BLANKS, 0x20202029);
            Checks.due("eval, call " + calls, yard.eval(20, 20000), 0);
            Checks.due("FUEL", yard.count(2), 7);
            Checks.due("byte 3", yard.octet(3), '2');
            Checks.due("made", yard.count(4), (calls / 5 + 1) * 5);
        }
    }
}
