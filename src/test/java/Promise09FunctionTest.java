/** Promise 9: a function is PRINTED by its SYMBOL's number. */
final class Promise09FunctionTest {
    public static void main(String[] args) {
        ConsYard yard = new ConsYard();
        Checks.define(yard, "F (LAMBDA (X) '(X . Y))");
        Checks.define(yard, "LESSP -15");
        Checks.define(yard, "G NIL");
        Checks.echo(yard, "(OLD PAGE)");
        for (int k : new int[] {-1, 0, 7, 8, 21, 24, 25, 299, 300, Integer.MIN_VALUE, Integer.MAX_VALUE}) {
            Checks.due("function(" + k + ")", yard.function(k), ConsYard.NONE);
            Checks.due("the PAGE stays", Checks.page(yard), "(OLD PAGE)");
        }
        Checks.due("function F", yard.function(23), 28);
        Checks.due("F", Checks.page(yard), "(LAMBDA (X) (QUOTE (X . Y)))");
        Checks.due("function LESSP", yard.function(22), 3);
        Checks.due("LESSP", Checks.page(yard), "-15");
        Checks.due("function G", yard.function(26), 3);
        Checks.due("G", Checks.page(yard), "NIL");
        Checks.due("the function stays", yard.function(23), 28);
        cutsThePage();
        Checks.finish("Promise09FunctionTest");
    }

    private static void cutsThePage() {
        ConsYard yard = new ConsYard();
        yard.room(2000);
        Checks.define(yard, "F (" + "'A".repeat(400) + ")");
        Checks.due("2000 bytes at most", yard.function(23), 2000);
        Checks.due("bytes of the PAGE", yard.count(5), 2000);
        Checks.due("the first ones", Checks.page(yard), ("(" + "(QUOTE A) ".repeat(400)).substring(0, 2000));
    }
}
