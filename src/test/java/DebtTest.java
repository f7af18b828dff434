/** Promises 29 to 32: nets, what must change hands, rings, claims shared. */
public final class DebtTest {
    private static final String FIVE = "person 9;person 9;person 9;person 9;person 9;";

    public static void main(String[] args) {
        nets();
        rings();
        claims();
        Check.end("DebtTest");
    }

    private static String owes(int debtor, int creditor, int n) {
        return "pot " + creditor + " " + debtor + " " + n + " 0 1 1 1 end;";
    }

    private static void nets() {
        PotHill x = Check.on(FIVE + owes(0, 1, 10) + owes(1, 2, 4) + owes(2, 0, 6) + owes(3, 0, 1));
        Check.due("net(0)", x.net(0), -10 + 6 + 1);
        Check.due("net(1)", x.net(1), 10 - 4);
        Check.due("net(2)", x.net(2), 4 - 6);
        Check.due("net(3)", x.net(3), -1);
        Check.due("net(4)", x.net(4), 0);
        Check.due("struck()", x.struck(), 6);
        Check.work(x, "pay 1;");
        Check.due("PAID counts no more", x.net(1), 10);
        Check.due("struck()", x.struck(), 10);
        Check.work(x, "give 0 0 0;");
        Check.due("one to himself", x.net(0), 7);
        Check.due("struck()", x.struck(), 7);
        Check.noSuch("net(5)", () -> x.net(5));
        Check.noSuch("net(-1)", () -> x.net(-1));
        Check.due("nobody", new PotHill().struck(), 0);
    }

    private static void ring(String what, String pots, int many, int row) {
        PotHill x = Check.on(FIVE + pots);
        Check.due(what + ": ring(0)", x.ring(0), many);
        Check.due(what + ": ring(1)", x.ring(1), row);
    }

    private static void rings() {
        ring("none", owes(0, 1, 1) + owes(1, 2, 1) + owes(0, 2, 1), -1, -1);
        ring("two", owes(3, 1, 1) + owes(1, 3, 1), 2, 24);
        ring("the fewest, not the first", owes(0, 1, 1) + owes(1, 2, 1) + owes(2, 0, 1) + owes(3, 4, 1) + owes(4, 3, 1),
            2, 45);
        ring("the first of alike ones", owes(4, 3, 1) + owes(3, 4, 1) + owes(2, 1, 1) + owes(1, 2, 1), 2, 23);
        ring("it begins with the least", owes(4, 2, 1) + owes(2, 3, 1) + owes(3, 4, 1), 3, 345);
        ring("the other way round", owes(2, 4, 1) + owes(3, 2, 1) + owes(4, 3, 1), 3, 354);
        ring("all five", owes(0, 4, 1) + owes(4, 1, 1) + owes(1, 3, 1) + owes(3, 2, 1) + owes(2, 0, 1), 5, 15243);
        ring("of two of three the first row", owes(0, 3, 1) + owes(3, 1, 1) + owes(1, 0, 1) + owes(0, 2, 1)
            + owes(2, 4, 1) + owes(4, 0, 1), 3, 135);
        PotHill x = Check.on(FIVE + owes(3, 1, 1) + owes(1, 3, 1));
        Check.work(x, "give 0 1 1;");
        Check.due("one who owes himself is no ring", x.ring(0), -1);
        x = Check.on(FIVE + owes(3, 1, 1) + owes(1, 3, 1));
        Check.work(x, "pay 0;");
        Check.due("PAID breaks it", x.ring(0), -1);
        x.undo();
        Check.due("undone, it is whole", x.ring(1), 24);
        Check.work(x, "give 0 0 0;give 1 1 4;");
        Check.due("asked again, nothing of the old one is left", x.ring(1), -1);
        Check.work(x, "give 1 1 0;give 0 0 0;");
        Check.due("3 owes 0, and 0 owes 3", x.ring(1), 14);
        PotHill y = x;
        Check.none("ring(2)", () -> y.ring(2));
        Check.none("ring(-1)", () -> y.ring(-1));
    }

    private static void claims() {
        PotHill x = Check.on(FIVE + owes(0, 1, 10) + owes(0, 2, 3) + owes(0, 3, 40)
            + "pot 1 0 7 1 1 1 1 end;" + owes(0, 4, 5));
        Check.due("none in DUE yet", x.gets(0, 400), 0);
        Check.work(x, "year;pay 4;");
        int[] n = {0, 2, 3, 8, 9, 11, 12, 23, 24, 52, 53, 400};
        int[] bound = {0, 0, 1, 2, 3, 4, 4, 10, 11, 39, 40, 40};
        for (int k = 0; k < n.length; k++) {
            Check.due("10 of " + n[k], x.gets(0, n[k]), Math.min(10, bound[k]));
            Check.due("3 of " + n[k], x.gets(1, n[k]), Math.min(3, bound[k]));
            Check.due("40 of " + n[k], x.gets(2, n[k]), Math.min(40, bound[k]));
            Check.due("not behind Y, of " + n[k], x.gets(3, n[k]), 0);
            Check.due("PAID, of " + n[k], x.gets(4, n[k]), 0);
        }
        Check.noSuch("gets(5, 401): the POT comes ahead", () -> x.gets(5, 401));
        Check.noSuch("gets(-1, 0)", () -> x.gets(-1, 0));
        Check.none("gets(0, 401)", () -> x.gets(0, 401));
        Check.none("gets(0, -1)", () -> x.gets(0, -1));
        Check.none("gets(3, 401): not in DUE, too", () -> x.gets(3, 401));
    }
}
