import java.io.IOException;
import java.nio.file.Files;
import java.nio.file.Path;

/** README.md: its example answers what it says, and each call of the face stands in it in the document's words. */
final class ReadmeTest {
    private static final String[] CALLS = {
        "`ConsYard()`: No functions; an empty TAPE, an empty PAGE.",
        "`int feed(int a, int b, int c, int d, int e)`: Twenty bytes come on the TAPE, of each number the highest first: how many there are; "
            + "NONE, doing nothing, if there would be more than 2,000.",
        "`int define(int n) throws IllegalArgumentException`: The first n bytes of the TAPE (empty then) are a SYMBOL and an S: that is its "
            + "function (whatever it had): 0; or its FAULT, and nothing is defined (SYMBOLS stay). At the first: 1 at what is no SYMBOL; NIL, T "
            + "and those up to FUNARG may not have one: 1 at it. IllegalArgumentException: n is not 0 to the TAPE's bytes.",
        "`int eval(int n, int fuel) throws IllegalArgumentException`: The first n bytes of the TAPE (empty then) are an S, which is EVALUATED: 0, "
            + "and the answer is PRINTED on the PAGE; or its FAULT (the PAGE is empty then). IllegalArgumentException: n likewise, or the FUEL is "
            + "not 0 to 20,000.",
        "`int echo(int n) throws IllegalArgumentException`: An S alone is read and PRINTED, not EVALUATED: 0, or its FAULT, likewise.",
        "`int place()`: The place of the FAULT of the text of the latest call of these three; NONE without one, and of FAULTS of the machine.",
        "`int room(int n) throws IllegalArgumentException`: ROOM is n: how many CELLS are REACHED by the functions; NONE, and it stays, if these "
            + "are more than n. IllegalArgumentException: n is not 0 to 2,000.",
        "`int count(int what)`: 0 SYMBOLS, 1 CELLS that functions reach, 2 FUEL that the latest eval() took (0 ahead of any, and of one whose "
            + "text had a FAULT), 3 the most FRAMES that it had, 4 CELLS that were made ever, 5 bytes of the PAGE, 6 of the TAPE, 7 ROOM, 8 "
            + "functions; NONE for others.",
        "`int function(int k)`: A function that is defined is PRINTED: SYMBOL k's: how many bytes; NONE, and the PAGE stays, if it has none.",
        "`int octet(int k)`: Byte k of the PAGE; NONE.",
    };

    private static String readme;

    public static void main(String[] args) throws IOException {
        readme = Files.readString(Path.of("README.md")).replaceAll("\\s+", " ");
        for (String call : CALLS) {
            says(call);
        }
        says("NONE` is " + ConsYard.NONE);
        example();
        Checks.finish("ReadmeTest");
    }

    private static void says(String words) {
        Checks.due("README says " + words, readme.contains(words) ? 1 : 0, 1);
    }

    private static void answers(String line, int got, int due) {
        says(line);
        Checks.due(line, got, due);
    }

    private static void example() {
        ConsYard yard = new ConsYard();
        says("ConsYard yard = new ConsYard();");
        says("yard.feed(0x44204C49, 0x53542020, 0x20202020, 0x20202020, 0x20202020); // D LIST");
        yard.feed(0x44204C49, 0x53542020, 0x20202020, 0x20202020, 0x20202020);
        answers("int fault = yard.define(6); // 0:", yard.define(6), 0);
        says("yard.feed(0x28442028, 0x43415220, 0x27284120, 0x42292929, 0x20202020); // (D (CAR '(A B)))");
        yard.feed(0x28442028, 0x43415220, 0x27284120, 0x42292929, 0x20202020);
        answers("fault = yard.eval(16, 1000); // 0,", yard.eval(16, 1000), 0);
        answers("int sign = yard.octet(1); // 'A', of (A) on the PAGE", yard.octet(1), 'A');
        Checks.due("the PAGE", Checks.page(yard), "(A)");
        answers("int fuel = yard.count(2); // 9", yard.count(2), 9);
        says("yard.feed(0x28412042, 0x20202020, 0x20202020, 0x20202020, 0x20202020); // (A B");
        yard.feed(0x28412042, 0x20202020, 0x20202020, 0x20202020, 0x20202020);
        answers("fault = yard.echo(4); // 1:", yard.echo(4), 1);
        answers("int place = yard.place(); // 4", yard.place(), 4);
    }
}
