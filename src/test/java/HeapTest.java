/** Promises 17 to 23: the heap, how it slides, where to throw and where to dig. */
public final class HeapTest {
    private static final String POTS = "person 1;person 1;pot 0 1 1 1 1 1 1 end;pot 0 1 1 1 1 1 1 end;"
        + "pot 0 1 1 1 1 1 1 end;pot 0 1 1 1 1 1 1 end;";

    public static void main(String[] args) {
        heights();
        throwing();
        sliding();
        digging();
        safe();
        tossed();
        baskets();
        searches();
        bruteForceSearch();
        Check.end("HeapTest");
    }

    private static void columns(String what, PotHill x, int... want) {
        for (int column = 0; column < 8; column++) {
            Check.due(what + ": height(" + column + ")", x.height(column), want[column]);
        }
    }

    private static void heights() {
        PotHill x = Check.on(POTS + "heap 0 9;heap 7 2;steep 9;");
        columns("as told", x, 9, 0, 0, 0, 0, 0, 0, 2);
        Check.none("height(-1)", () -> x.height(-1));
        Check.none("height(8)", () -> x.height(8));
        Check.work(x, "throw 2 7;");
        Check.due("old", x.shard(7, 1), -2);
        Check.due("third", x.shard(7, 2), 2);
        Check.due("none such", x.shard(7, 3), -1);
        Check.due("far above", x.shard(7, 2147483647), -1);
        Check.none("shard(7, -1)", () -> x.shard(7, -1));
        Check.none("shard(8, 0)", () -> x.shard(8, 0));
        Check.none("shard(-1, 0)", () -> x.shard(-1, 0));
    }

    private static void throwing() {
        PotHill x = Check.on(POTS + "steep 9;");
        Check.due("once each", Check.work(x, "throw 0 3;throw 0 4;throw 1 3;"), 2);
        Check.due("thrown", x.pot(0, 7), 3);
        Check.due("order", x.shard(3, 0), 0);
        Check.due("on top", x.shard(3, 1), 1);
        Check.due("PAID ones may be thrown, too", Check.work(x, "pay 2;throw 2 0;"), 2);
    }

    private static void sliding() {
        PotHill x = Check.on(POTS + "heap 3 2;heap 2 1;steep 1;");
        columns("unsteady, but it lies", x, 0, 0, 1, 2, 0, 0, 0, 0);
        Check.work(x, "throw 0 3;");
        // Column 3 is higher than column 2 by 2, but the lower one of both beside it is column 4.
        columns("slid", x, 0, 0, 1, 2, 1, 0, 0, 0);
        Check.due("the thrown one", x.pot(0, 7), 4);
        x = Check.on(POTS + "heap 3 1;steep 1;");
        Check.work(x, "throw 0 3;");
        columns("of alike ones the left", x, 0, 0, 1, 1, 0, 0, 0, 0);
        x = Check.on(POTS + "heap 0 1;steep 1;");
        Check.work(x, "throw 0 0;");
        columns("at the left rim", x, 1, 1, 0, 0, 0, 0, 0, 0);
        x = Check.on(POTS + "heap 7 1;steep 1;");
        Check.work(x, "throw 0 7;");
        columns("at the right rim", x, 0, 0, 0, 0, 0, 0, 1, 1);
        x = Check.on(POTS + "heap 1 4;heap 5 4;steep 3;");
        Check.work(x, "throw 0 7;");
        columns("both towers", x, 1, 3, 0, 0, 1, 3, 0, 1);
    }

    private static void digging() {
        PotHill x = Check.on(POTS + "heap 3 2;heap 4 2;steep 1;");
        Check.due("nothing to dig", Check.work(x, "dig 0;"), 0);
        Check.due("refused", x.told(9), 1);
        columns("and nothing slides", x, 0, 0, 0, 2, 2, 0, 0, 0);
        Check.due("dug", Check.work(x, "dig 4;"), 1);
        columns("it slides then", x, 0, 0, 1, 1, 1, 0, 0, 0);
        x = Check.on(POTS + "steep 9;");
        Check.work(x, "throw 1 2;dig 2;");
        Check.due("thrown no more", x.pot(1, 7), -1);
        Check.due("may be thrown again", Check.work(x, "throw 1 6;"), 1);
        Check.due("there", x.pot(1, 7), 6);
    }

    private static void safe() {
        Check.due("flat", new PotHill().safe(), 255);
        Check.due("a step of 1 next to 0", Check.on("heap 0 1;steep 1;").safe(), 255 - 1);
        Check.due("2 next to 0 on both sides", Check.on("heap 3 2;steep 2;").safe(), 255 - 8);
        Check.due("unsteady as told", Check.on("heap 3 3;steep 2;").safe(), 0);
        Check.due("a throw that steadies", Check.on("heap 0 3;steep 2;").safe(), 2);
        Check.due("the rim", Check.on("heap 7 9;heap 6 9;heap 5 5;heap 4 1;steep 4;").safe(), 255 - 32 - 64);
        PotHill x = Check.on("heap 3 3;steep 2;");
        x.safe();
        columns("nothing stays changed", x, 0, 0, 0, 3, 0, 0, 0, 0);
    }

    private static void tossed() {
        PotHill x = Check.on("heap 3 4;heap 4 1;steep 2;");
        Check.due("how often", x.tossed(3, 0), 2);
        Check.due("where", x.tossed(3, 1), 2);
        Check.due("elsewhere, but it slides", x.tossed(0, 0), 1);
        Check.due("it stays", x.tossed(0, 1), 0);
        columns("nothing stays changed", x, 0, 0, 0, 4, 1, 0, 0, 0);
        Check.none("tossed(8, 0)", () -> x.tossed(8, 0));
        Check.none("tossed(-1, 0)", () -> x.tossed(-1, 0));
        Check.none("tossed(0, 2)", () -> x.tossed(0, 2));
        Check.none("tossed(0, -1)", () -> x.tossed(0, -1));
        StringBuilder full = new StringBuilder(POTS);
        for (int column = 0; column < 8; column++) {
            full.append("heap ").append(column).append(" 9;");
        }
        Check.due("on a full heap", Check.on(full + "steep 1;").tossed(4, 0), 0);
    }

    private static void baskets() {
        PotHill x = Check.on(POTS + "heap 2 3;steep 9;");
        Check.work(x, "throw 0 2;throw 1 2;throw 2 2;");
        Check.due("deepest", x.baskets(0), 3);
        Check.due("next", x.baskets(1), 2);
        Check.due("on top", x.baskets(2), 1);
        Check.due("not thrown", x.baskets(3), -1);
        Check.noSuch("baskets(4)", () -> x.baskets(4));
        Check.noSuch("baskets(-1)", () -> x.baskets(-1));
    }

    private static void searches() {
        PotHill x = Check.on("heap 0 1;heap 2 3;heap 5 3;heap 7 4;");
        Check.due("the highest first, of alike ones the left", x.order(), 8361);
        Check.due("one column", Check.on("heap 7 1;").order(), 8);
        Check.due("1 by", Check.on("heap 7 1;").mean(0), 1);
        Check.due("1", Check.on("heap 7 1;").mean(1), 1);
        // 3 * 1 + 2 * 2 + 1 * 3 by 6 is 5 by 3.
        Check.due("5 by", Check.on("heap 1 3;").mean(0), 5);
        Check.due("3", Check.on("heap 1 3;").mean(1), 3);
        Check.due("empty", new PotHill().order(), 0);
        Check.due("empty: 0 by", new PotHill().mean(0), 0);
        Check.due("1", new PotHill().mean(1), 1);
        Check.none("mean(2)", () -> x.mean(2));
        Check.none("mean(-1)", () -> x.mean(-1));
        StringBuilder full = new StringBuilder();
        for (int column = 0; column < 8; column++) {
            full.append("heap ").append(column).append(" 9;");
        }
        Check.due("all eight", Check.on(full.toString()).order(), 12345678);
    }

    /** Every row of columns is tried: the first one with the least sum is the order that is due. */
    private static void bruteForceSearch() {
        int[][] heaps = {{1, 2, 3, 4}, {4, 4, 1, 2}, {9, 0, 8, 9}, {2, 2, 2, 2}, {1, 9, 1, 5}, {0, 3, 0, 7}};
        for (int[] heap : heaps) {
            StringBuilder text = new StringBuilder();
            for (int column = 0; column < 4; column++) {
                text.append("heap ").append(2 * column).append(' ').append(heap[column]).append(';');
            }
            PotHill x = Check.on(text.toString());
            long[] best = {Long.MAX_VALUE, 0};
            tryRows(heap, 0, 0, 0, 0, best);
            int weight = 0;
            for (int h : heap) {
                weight += h * (h + 1) / 2;
            }
            Check.due(text + " order()", x.order(), best[1]);
            Check.due(text + " mean", (long) x.mean(0) * weight, (long) x.mean(1) * best[0]);
        }
    }

    private static void tryRows(int[] heap, int used, int dug, long sum, long row, long[] best) {
        boolean whole = true;
        for (int column = 0; column < 4; column++) {
            if (heap[column] > 0 && (used >> column & 1) == 0) {
                whole = false;
                long more = 0;
                for (int k = 1; k <= heap[column]; k++) {
                    more += (long) (dug + k) * (heap[column] - k + 1);
                }
                tryRows(heap, used | 1 << column, dug + heap[column], sum + more, row * 10 + 2 * column + 1, best);
            }
        }
        if (whole && sum < best[0]) {
            best[0] = sum;
            best[1] = row;
        }
    }
}
