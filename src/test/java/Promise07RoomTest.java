/** Promise 7: ROOM is set, unless the functions' CELLS are more. */
final class Promise07RoomTest {
    public static void main(String[] args) {
        ConsYard yard = new ConsYard();
        Checks.due("room(0)", yard.room(0), 0);
        Checks.due("count(7)", yard.count(7), 0);
        Checks.due("no CELL in it", Checks.echoOutcome(yard, "(A)"), "fault 8 at 2");
        Checks.due("an ATOM needs none", Checks.echoOutcome(yard, "A"), "A");
        Checks.due("room(2000)", yard.room(2000), 0);
        Checks.due("count(7)", yard.count(7), 2000);
        Checks.define(yard, "F (A (B C) D)");
        Checks.define(yard, "G (E E)");
        Checks.define(yard, "H 5");
        Checks.eval(yard, "(LIST 1 2 3 4 5 6 7 8 9)", 100);
        Checks.due("more than these have", yard.room(8), 7);
        Checks.due("as many as these have", yard.room(7), 7);
        Checks.due("fewer than these have", yard.room(6), ConsYard.NONE);
        Checks.due("it stays", yard.count(7), 7);
        Checks.due("none at all", yard.room(0), ConsYard.NONE);
        Checks.due("it stays", yard.count(7), 7);
        Checks.due("no CELL beside them", Checks.echoOutcome(yard, "(A)"), "fault 8 at 2");
        Checks.define(yard, "F G");
        Checks.due("F let go of its own", Checks.echoOutcome(yard, "(A B C D E)"), "(A B C D E)");
        Checks.due("room(2)", yard.room(2), 2);
        throwsBeyond(yard);
        Checks.due("it stays", yard.count(7), 2);
        holdsTwoThousand();
        Checks.finish("Promise07RoomTest");
    }

    private static void throwsBeyond(ConsYard yard) {
        for (int n : new int[] {-1, 2001, Integer.MIN_VALUE, Integer.MAX_VALUE}) {
            Checks.throwsIllegalArgument("room(" + n + ")", () -> yard.room(n));
        }
    }

    private static void holdsTwoThousand() {
        ConsYard yard = new ConsYard();
        yard.room(2000);
        String list = "(" + "1 ".repeat(900) + ")";
        Checks.define(yard, "F " + list);
        Checks.define(yard, "G " + list);
        Checks.due("CELLS", yard.room(2000), 1800);
        Checks.due("201 more", Checks.echo(yard, "(" + "1 ".repeat(201) + ")"), 8);
        Checks.due("200 more", Checks.define(yard, "H (" + "1 ".repeat(200) + ")"), 0);
        Checks.due("all CELLS", yard.count(1), 2000);
        Checks.due("room(1999)", yard.room(1999), ConsYard.NONE);
        Checks.due("room(2000)", yard.room(2000), 2000);
        Checks.due("none more", Checks.echoOutcome(yard, "(1)"), "fault 8 at 2");
        Checks.due("none more by the machine", Checks.eval(yard, "(LIST)", 9), 8);
    }
}
