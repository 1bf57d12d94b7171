/** Promise 10: a byte of the PAGE. */
final class Promise10OctetTest {
    public static void main(String[] args) {
        ConsYard yard = new ConsYard();
        for (int k : new int[] {-1, 0, 1, 2000}) {
            Checks.due("of an empty PAGE: octet(" + k + ")", yard.octet(k), ConsYard.NONE);
        }
        Checks.echo(yard, "(A1 . -9)");
        int[] due = {'(', 'A', '1', ' ', '.', ' ', '-', '9', ')'};
        for (int k = 0; k < due.length; k++) {
            Checks.due("octet(" + k + ")", yard.octet(k), due[k]);
        }
        for (int k : new int[] {-1, 9, 10, 1999, 2000, Integer.MIN_VALUE, Integer.MAX_VALUE}) {
            Checks.due("octet(" + k + ")", yard.octet(k), ConsYard.NONE);
        }
        Checks.echo(yard, "B");
        Checks.due("a shorter PAGE", yard.octet(0), 'B');
        Checks.due("nothing of the old one", yard.octet(1), ConsYard.NONE);
        Checks.echo(yard, "(");
        Checks.due("an empty PAGE", yard.octet(0), ConsYard.NONE);
        Checks.finish("Promise10OctetTest");
    }
}
