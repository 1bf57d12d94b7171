/** Promise 6: the place of the FAULT of the latest text. */
final class Promise06PlaceTest {
    public static void main(String[] args) {
        ConsYard yard = new ConsYard();
        Checks.due("ahead of any", yard.place(), ConsYard.NONE);
        Checks.echo(yard, "(A B");
        Checks.due("of echo", yard.place(), 4);
        Checks.due("asked again", yard.place(), 4);
        yard.feed(0, 0, 0, 0, 0);
        yard.count(0);
        yard.function(0);
        yard.octet(0);
        yard.room(900);
        Checks.due("other calls don't change it", yard.place(), 4);
        Checks.throwsIllegalArgument("echo(21)", () -> yard.echo(21));
        Checks.throwsIllegalArgument("define(-1)", () -> yard.define(-1));
        Checks.throwsIllegalArgument("eval(0, -1)", () -> yard.eval(0, -1));
        Checks.due("nor do calls that throw", yard.place(), 4);
        Checks.due("echo of a byte 0", yard.echo(1), 1);
        Checks.due("at 0", yard.place(), 0);
        Checks.define(yard, "F A B");
        Checks.due("of define", yard.place(), 4);
        Checks.eval(yard, "(A . B C", 5);
        Checks.due("of eval", yard.place(), 7);
        Checks.eval(yard, "A", 5);
        Checks.due("of a FAULT of the machine", yard.place(), ConsYard.NONE);
        Checks.echo(yard, ")");
        Checks.define(yard, "F A");
        Checks.due("define without a FAULT", yard.place(), ConsYard.NONE);
        Checks.echo(yard, ")");
        Checks.echo(yard, "A");
        Checks.due("echo without a FAULT", yard.place(), ConsYard.NONE);
        Checks.echo(yard, ")");
        Checks.eval(yard, "1", 5);
        Checks.due("eval without a FAULT", yard.place(), ConsYard.NONE);
        Checks.echo(yard, ")");
        yard.room(1);
        Checks.eval(yard, "(CONS 1 2)", 50);
        Checks.due("MEMORY of a text", yard.place(), 9);
        yard.room(7);
        Checks.define(yard, "F (LAMBDA () (LIST 1 2))");
        Checks.due("MEMORY of the machine", Checks.eval(yard, "(F)", 50), 8);
        Checks.due("has no place", yard.place(), ConsYard.NONE);
        Checks.define(yard, "F A");
        yard.room(2);
        Checks.define(yard, "G (LAMBDA () X)");
        Checks.due("MEMORY of a text", yard.place(), 14);
        yard.room(0);
        Checks.define(yard, "G LIST");
        Checks.due("no CELLS needed", yard.place(), ConsYard.NONE);
        Checks.finish("Promise06PlaceTest");
    }
}
