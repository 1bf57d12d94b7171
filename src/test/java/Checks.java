import java.util.function.IntSupplier;

/** What all tests share: feeding texts, reading the PAGE, and keeping account of the answers. */
final class Checks {
    static final int FUEL = 20000;

    private static int passed;
    private static int failed;

    private Checks() {
    }

    static void due(String what, long got, long want) {
        count(got == want, what, String.valueOf(got), String.valueOf(want));
    }

    static void due(String what, String got, String want) {
        count(got.equals(want), what, got, want);
    }

    static void throwsIllegalArgument(String what, IntSupplier call) {
        String got;
        try {
            got = "answer " + call.getAsInt();
        } catch (RuntimeException e) {
            got = e.getClass().getName();
        }
        due(what, got, "java.lang.IllegalArgumentException");
    }

    private static void count(boolean right, String what, String got, String want) {
        if (right) {
            passed++;
        } else {
            failed++;
            System.out.println(what + " answered " + got + ", due is " + want);
        }
    }

    static void finish(String test) {
        System.out.println(test + ": " + passed + " answers as due, " + failed + " not");
        if (failed != 0 || passed == 0) {
            System.exit(1);
        }
    }

    /** All that can be seen of an object without changing it. */
    static String state(ConsYard yard) {
        StringBuilder state = new StringBuilder("counts");
        for (int what = 0; what <= 8; what++) {
            state.append(' ').append(yard.count(what));
        }
        return state.append(", place ").append(yard.place()).append(", PAGE [").append(page(yard)).append(']').toString();
    }

    /** Reads new SYMBOLS until there are so many; a text takes hundreds, and a wrong program must not hang a test. */
    static void fillSymbols(ConsYard yard, int symbols) {
        for (int turn = 0; turn < 10 && yard.count(0) < symbols; turn++) {
            StringBuilder text = new StringBuilder("(");
            for (int k = yard.count(0); k < symbols && text.length() < 1900; k++) {
                text.append(" S").append(k);
            }
            echo(yard, text.append(')').toString());
        }
    }

    /** Feeds a text, with blanks behind it to the next twenty bytes: its own length. */
    static int feed(ConsYard yard, String text) {
        int[] words = new int[5];
        for (int start = 0; start < text.length(); start += 20) {
            for (int word = 0; word < 5; word++) {
                words[word] = 0;
                for (int k = start + word * 4; k < start + word * 4 + 4; k++) {
                    words[word] = words[word] << 8 | (k < text.length() ? text.charAt(k) & 255 : ' ');
                }
            }
            yard.feed(words[0], words[1], words[2], words[3], words[4]);
        }
        return text.length();
    }

    static int define(ConsYard yard, String text) {
        return yard.define(feed(yard, text));
    }

    static int eval(ConsYard yard, String text, int fuel) {
        return yard.eval(feed(yard, text), fuel);
    }

    static int echo(ConsYard yard, String text) {
        return yard.echo(feed(yard, text));
    }

    /** The PAGE, and a byte behind the last that it may have, if there is one. */
    static String page(ConsYard yard) {
        StringBuilder page = new StringBuilder();
        for (int k = 0; k <= 2000 && yard.octet(k) != ConsYard.NONE; k++) {
            page.append((char) yard.octet(k));
        }
        return page.toString();
    }

    /** The PAGE, or the FAULT and its place. */
    static String outcome(ConsYard yard, int fault) {
        return fault == 0 ? page(yard) : "fault " + fault + " at " + yard.place();
    }

    static String evalOutcome(ConsYard yard, String text) {
        return evalOutcome(yard, text, FUEL);
    }

    static String evalOutcome(ConsYard yard, String text, int fuel) {
        return outcome(yard, eval(yard, text, fuel));
    }

    static String echoOutcome(ConsYard yard, String text) {
        return outcome(yard, echo(yard, text));
    }
}
