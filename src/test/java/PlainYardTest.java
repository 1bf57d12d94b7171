import java.util.Random;

/** Runs of calls, drawn with fixed seeds, on ConsYard and on PlainYard: every answer must be the same. */
final class PlainYardTest {
    private static final String[] NAMES = ("NIL T QUOTE COND FUNCTION LAMBDA LABEL FUNARG CAR CDR CONS ATOM EQ NULL LIST EVAL "
            + "NUMBERP PLUS DIFFERENCE TIMES QUOTIENT REMAINDER LESSP F G H X Y Z").split(" ");
    private static final String[] BUILT_IN = "CAR CDR CONS ATOM EQ NULL LIST EVAL NUMBERP PLUS DIFFERENCE TIMES QUOTIENT REMAINDER LESSP"
            .split(" ");
    private static final String[] OWN = {"F", "G", "H"};
    private static final String[] VARIABLES = {"X", "Y", "Z"};
    private static final String SIGNS = "()'. \nAB1-20(A)T x%";

    private final Random random;
    private final int seed;
    private final ConsYard yard = new ConsYard();
    private final PlainYard plain = new PlainYard();

    private PlainYardTest(int seed) {
        this.seed = seed;
        random = new Random(seed);
    }

    public static void main(String[] args) {
        for (int seed = 0; seed < 400; seed++) {
            new PlainYardTest(seed).run();
        }
        for (int seed = 0; seed < 60; seed++) {
            new PlainYardTest(seed).runWild();
        }
        for (int seed = 0; seed < 60; seed++) {
            new PlainYardTest(seed).runWholeLife();
        }
        Checks.finish("PlainYardTest");
    }

    private void run() {
        compareCounts("a new object");
        for (int turn = 0; turn < 25; turn++) {
            switch (random.nextInt(8)) {
                case 0:
                    room(random.nextInt(4) == 0 ? random.nextInt(2010) - 5 : random.nextInt(120));
                    break;
                case 1:
                    read("echo", soup());
                    break;
                case 2:
                    read("define", random.nextInt(3) == 0 ? soup() : "F " + soup());
                    break;
                case 3:
                case 4:
                    read("define", pick(random.nextInt(6) == 0 ? NAMES : OWN) + " " + function(3));
                    break;
                case 5:
                    tightRooms();
                    break;
                default:
                    read("eval", program());
                    break;
            }
        }
    }

    /** Any call with any argument, 512 times. */
    private void runWild() {
        for (int call = 0; call < 512; call++) {
            int n = wildNumber();
            int m = wildNumber();
            String what = "seed " + seed + " wild call " + call + " with " + n + ", " + m + " answered, ";
            switch (random.nextInt(14)) {
                case 0:
                    Checks.due(what + "define", answer(() -> yard.define(n)), answer(() -> plain.define(n)));
                    break;
                case 1:
                    Checks.due(what + "eval", answer(() -> yard.eval(n, m)), answer(() -> plain.eval(n, m)));
                    break;
                case 2:
                    Checks.due(what + "echo", answer(() -> yard.echo(n)), answer(() -> plain.echo(n)));
                    break;
                case 3:
                    Checks.due(what + "place", yard.place(), plain.place());
                    break;
                case 4:
                    Checks.due(what + "room", answer(() -> yard.room(n)), answer(() -> plain.room(n)));
                    break;
                case 5:
                    Checks.due(what + "count", yard.count(n), plain.count(n));
                    break;
                case 6:
                    Checks.due(what + "function", yard.function(n), plain.function(n));
                    break;
                case 7:
                    Checks.due(what + "octet", yard.octet(n), plain.octet(n));
                    break;
                case 8:
                    Checks.due(what + "feed", yard.feed(n, m, n, m, n), plain.feed(n, m, n, m, n));
                    break;
                default:
                    feed(soup());
                    break;
            }
        }
        compareCounts("seed " + seed + " after wild calls");
    }

    /** "An object is used for at most 512 calls": 512 and no more, each with texts that mean something. */
    private void runWholeLife() {
        int calls = 0;
        while (calls < 512) {
            String what = "seed " + seed + ", call " + (calls + 1) + " of 512: ";
            int n = random.nextInt(30);
            String text = random.nextInt(3) == 0 ? pick(OWN) + " " + function(3) : program();
            int feeds = (text.length() + 19) / 20;
            if (random.nextInt(3) == 0 && text.length() <= 2000 && calls + feeds < 512) {
                feed(text);
                calls += feeds;
                readWholeTape(what, text);
            } else if (random.nextInt(6) == 0) {
                int room = random.nextInt(2) == 0 ? 2000 : random.nextInt(300);
                Checks.due(what + "room " + room, answer(() -> yard.room(room)), answer(() -> plain.room(room)));
            } else if (random.nextInt(4) == 0) {
                Checks.due(what + "function " + n, yard.function(n), plain.function(n));
            } else if (random.nextInt(4) == 0) {
                Checks.due(what + "octet " + n, yard.octet(n), plain.octet(n));
            } else if (random.nextInt(6) == 0) {
                Checks.due(what + "place", yard.place(), plain.place());
            } else {
                Checks.due(what + "count " + n % 9, yard.count(n % 9), plain.count(n % 9));
            }
            calls++;
        }
    }

    private void readWholeTape(String what, String text) {
        int n = text.length();
        int fuel = random.nextInt(20001);
        boolean defines = text.startsWith("F ") || text.startsWith("G ") || text.startsWith("H ");
        if (defines) {
            Checks.due(what + "define " + text, answer(() -> yard.define(n)), answer(() -> plain.define(n)));
        } else if (random.nextInt(6) == 0) {
            Checks.due(what + "echo " + text, answer(() -> yard.echo(n)), answer(() -> plain.echo(n)));
        } else {
            Checks.due(what + "eval " + text, answer(() -> yard.eval(n, fuel)), answer(() -> plain.eval(n, fuel)));
        }
    }

    private int wildNumber() {
        switch (random.nextInt(5)) {
            case 0:
                return random.nextInt();
            case 1:
                return random.nextInt(2100) - 50;
            case 2:
                return yard.count(6) - random.nextInt(20);
            default:
                return random.nextInt(40) - 2;
        }
    }

    /** The same program in one ROOM after another, so that MEMORY ends at every CELL that it makes. */
    private void tightRooms() {
        String program = program();
        if (random.nextInt(3) != 0) {
            // a short text leaves the ROOM to the machine
            read("define", "H (LAMBDA (X Y Z) " + expression(5) + ")");
            program = "(H '(A B) " + random.nextInt(9) + " T)";
        }
        int functions = yard.count(1);
        for (int n = functions + random.nextInt(6); n < Math.min(functions + 90, 2000); n += 1 + random.nextInt(8)) {
            room(n);
            read("eval", program);
        }
        room(2000);
    }

    private String program() {
        if (random.nextInt(4) == 0) {
            return expression(5);
        }
        return "((LAMBDA (X Y Z) " + expression(4) + ") " + random.nextInt(9) + " '" + datum(2) + " " + expression(2) + ")";
    }

    private String pick(String[] from) {
        return from[random.nextInt(from.length)];
    }

    private String soup() {
        StringBuilder soup = new StringBuilder();
        for (int k = random.nextInt(30); k > 0; k--) {
            soup.append(random.nextInt(6) == 0 ? pick(NAMES) + " " : String.valueOf(SIGNS.charAt(random.nextInt(SIGNS.length()))));
        }
        return soup.toString();
    }

    private String datum(int depth) {
        if (depth <= 0 || random.nextInt(3) == 0) {
            return random.nextInt(4) == 0 ? String.valueOf(random.nextInt(21) - 10) : pick(NAMES);
        }
        StringBuilder list = new StringBuilder("(");
        int size = random.nextInt(4);
        for (int k = 0; k < size; k++) {
            list.append(datum(depth - 1)).append(' ');
        }
        if (size > 0 && random.nextInt(5) == 0) {
            list.append(". ").append(datum(depth - 1));
        }
        return list.append(')').toString();
    }

    private String function(int depth) {
        switch (random.nextInt(depth <= 0 ? 3 : 10)) {
            case 0:
                return pick(OWN);
            case 1:
                return pick(BUILT_IN);
            case 2:
                return random.nextInt(8) == 0 ? datum(2) : pick(BUILT_IN);
            case 3:
                return "(LABEL " + pick(OWN) + " " + function(depth - 1) + ")";
            case 4:
                return "(FUNARG " + function(depth - 1) + " ((X . 1) (Y A B)))";
            default:
                return lambda(depth);
        }
    }

    private String lambda(int depth) {
        StringBuilder variables = new StringBuilder();
        for (int k = random.nextInt(4); k > 0; k--) {
            variables.append(random.nextInt(30) == 0 ? datum(1) : pick(VARIABLES)).append(' ');
        }
        return "(LAMBDA (" + variables + ") " + expression(depth - 1) + ")";
    }

    private String expression(int depth) {
        if (depth <= 0) {
            return random.nextInt(3) == 0 ? String.valueOf(random.nextInt(10)) : random.nextInt(2) == 0 ? pick(VARIABLES) : "'" + datum(1);
        }
        switch (random.nextInt(12)) {
            case 0:
                return pick(VARIABLES);
            case 1:
                return "'" + datum(3);
            case 2:
                return "(COND (" + expression(depth - 1) + " " + expression(depth - 1) + ") (T " + expression(depth - 1) + "))";
            case 3:
                return "(FUNCTION " + function(depth - 1) + ")";
            case 4:
                return random.nextInt(4) == 0 ? datum(depth) : "(EVAL '" + expression(depth - 1) + " '((X . 3) (Y . (A)) (F . CAR)))";
            case 5:
                return "(CONS " + expression(depth - 1) + " " + expression(depth - 1) + ")";
            case 6:
                return "(" + pick(OWN) + " " + expression(depth - 1) + ")";
            default:
                return call(depth);
        }
    }

    private String call(int depth) {
        if (random.nextInt(3) != 0) {
            return fittingCall(depth);
        }
        StringBuilder call = new StringBuilder("(").append(function(depth - 1));
        for (int k = random.nextInt(4); k > 0; k--) {
            call.append(' ').append(expression(depth - 1));
        }
        return call.append(')').toString();
    }

    /** A call with as many VALUES as wanted, for else most programs would end with FAULT 11. */
    private String fittingCall(int depth) {
        String one = expression(depth - 1);
        String two = one + " " + expression(depth - 1);
        switch (random.nextInt(7)) {
            case 0:
                return "(CAR " + one + ")";
            case 1:
                return "(CDR " + one + ")";
            case 2:
                return "(LIST " + two + ")";
            case 3:
                return "(PLUS " + two + ")";
            case 4:
                return "((LAMBDA (F) (LIST (F " + two + ") X)) (FUNCTION (LAMBDA (X Y) " + expression(depth - 1) + ")))";
            case 5:
                return "((LABEL G (LAMBDA (Z) (COND ((ATOM Z) " + one + ") (T (CONS (CAR Z) (G (CDR Z))))))) '(A B C))";
            default:
                return "((LAMBDA (X Y) " + expression(depth - 1) + ") " + two + ")";
        }
    }

    private void room(int n) {
        String what = "seed " + seed + ": room(" + n + ")";
        Checks.due(what, answer(() -> yard.room(n)), answer(() -> plain.room(n)));
        compareCounts(what);
    }

    private void read(String call, String text) {
        String what = "seed " + seed + ": " + call + " " + text;
        int fuel = random.nextInt(4) == 0 ? random.nextInt(60) : random.nextInt(3000);
        feed(text.length() > 2000 ? text.substring(0, 2000) : text);
        int n = random.nextInt(20) == 0 ? random.nextInt(2100) - 50 : Math.min(text.length(), 2000);
        if (call.equals("eval")) {
            Checks.due(what, answer(() -> yard.eval(n, fuel)), answer(() -> plain.eval(n, fuel)));
        } else if (call.equals("define")) {
            Checks.due(what, answer(() -> yard.define(n)), answer(() -> plain.define(n)));
        } else {
            Checks.due(what, answer(() -> yard.echo(n)), answer(() -> plain.echo(n)));
        }
        compareCounts(what);
        int k = random.nextInt(40) - 2;
        Checks.due(what + " function " + k, yard.function(k), plain.function(k));
        comparePages(what);
    }

    private void feed(String text) {
        for (int start = 0; start < text.length(); start += 20) {
            int[] words = new int[5];
            for (int k = 0; k < 20; k++) {
                words[k / 4] = words[k / 4] << 8 | (start + k < text.length() ? text.charAt(start + k) : 0);
            }
            Checks.due("feed", yard.feed(words[0], words[1], words[2], words[3], words[4]),
                    plain.feed(words[0], words[1], words[2], words[3], words[4]));
        }
    }

    private void compareCounts(String what) {
        for (int k = -1; k <= 9; k++) {
            Checks.due(what + " count " + k, yard.count(k), plain.count(k));
        }
        Checks.due(what + " place", yard.place(), plain.place());
        comparePages(what);
    }

    private void comparePages(String what) {
        StringBuilder mine = new StringBuilder();
        StringBuilder other = new StringBuilder();
        for (int k = -1; k <= 2001; k++) {
            mine.append((char) yard.octet(k));
            other.append((char) plain.octet(k));
        }
        Checks.due(what + " page", mine.toString(), other.toString());
    }

    private static String answer(java.util.function.IntSupplier call) {
        try {
            return String.valueOf(call.getAsInt());
        } catch (IllegalArgumentException e) {
            return "throws";
        }
    }
}
