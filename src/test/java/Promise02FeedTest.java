/** Promise 2: twenty bytes come on the TAPE, of each number the highest first. */
final class Promise02FeedTest {
    public static void main(String[] args) {
        keepsTheOrder();
        takesAnyByte();
        endsAtTwoThousand();
        Checks.finish("Promise02FeedTest");
    }

    private static void keepsTheOrder() {
        ConsYard yard = new ConsYard();
        Checks.due("feed once", yard.feed(0x28414220, 0x43442045, 0x46204748, 0x20494A20, 0x4B4C204D), 20);
        Checks.due("feed twice", yard.feed(0x4E204F50, 0x20515220, 0x53542055, 0x56205758, 0x20595A29), 40);
        Checks.due("count(6)", yard.count(6), 40);
        Checks.due("echo", yard.echo(40), 0);
        Checks.due("the bytes", Checks.page(yard), "(AB CD EF GH IJ KL MN OP QR ST UV WX YZ)");
        Checks.due("the TAPE is empty then", yard.count(6), 0);
        Checks.due("feed anew", yard.feed(0, 0, 0, 0, 0), 20);
        Checks.due("only the first bytes", Checks.echo(yard, "A B"), 1);
    }

    private static void takesAnyByte() {
        for (int octet = 0; octet < 256; octet++) {
            ConsYard yard = new ConsYard();
            boolean stands = octet == 32 || octet == 10 || octet >= 'A' && octet <= 'Z' || octet >= '0' && octet <= '9';
            yard.feed('Q' << 24 | octet << 16 | 0x2020, 0x20202020, 0x20202020, 0x20202020, 0x20202020);
            Checks.due("byte " + octet + " behind an ATOM", yard.echo(20), stands ? 0 : 1);
            Checks.due("its place", yard.place(), stands ? ConsYard.NONE : 1);
        }
    }

    private static void endsAtTwoThousand() {
        ConsYard yard = new ConsYard();
        int blank = 0x20202020;
        for (int k = 1; k <= 100; k++) {
            Checks.due("feed " + k, yard.feed(blank, blank, blank, blank, k == 100 ? 0x20202051 : blank), k * 20);
        }
        Checks.due("feed 101", yard.feed(-1, -1, -1, -1, -1), ConsYard.NONE);
        Checks.due("feed 102", yard.feed(0, 0, 0, 0, 0), ConsYard.NONE);
        Checks.due("the TAPE stays", yard.count(6), 2000);
        Checks.due("all of it is read", yard.echo(2000), 0);
        Checks.due("its last byte", Checks.page(yard), "Q");
        Checks.due("feed behind it", yard.feed(0, 0, 0, 0, 0), 20);
    }
}
