/** Promises 13 and 35 to 37: wear that is asked about, years to come, goats. */
public final class YearsTest {
    public static void main(String[] args) {
        would();
        ahead();
        goats();
        goatsByHand();
        unsteadyHeap();
        span();
        Check.end("YearsTest");
    }

    private static void would() {
        PotHill x = new PotHill();
        Check.law(x, "depth / 2 + place - age + due * 3");
        Check.due("8", x.would(9, 2, 0, 0, 1, 1), 8);
        Check.due("its DEPTH at most", x.would(3, 5, 1, 0, 0, 1), 3);
        Check.due("0 at least", x.would(9, 0, 0, 0, 9, 0), 0);
        Check.law(x, "year - 195 + half");
        Check.due("year 200", x.would(9, 0, 1, 200, 200, 0), 6);
        Check.due("of nothing", x.would(0, 0, 1, 200, 0, 0), 0);
        int[] most = {9, 5, 1, 200, 200, 1};
        for (int k = 0; k < 6; k++) {
            int[] a = new int[6];
            a[k] = most[k] + 1;
            Check.none("one too many, at " + k, () -> x.would(a[0], a[1], a[2], a[3], a[4], a[5]));
            int[] b = new int[6];
            b[k] = -1;
            Check.none("-1 at " + k, () -> x.would(b[0], b[1], b[2], b[3], b[4], b[5]));
            int[] c = new int[6];
            c[k] = most[k];
            Check.due("the most at " + k, Check.thrown(() -> x.would(c[0], c[1], c[2], c[3], c[4], c[5])), 0);
        }
    }

    private static void ahead() {
        PotHill x = Check.on("person 9;person 9;pot 0 1 1 0 9 9 9 end;pot 0 1 1 0 2 2 2 end;pot 0 1 1 0 5 5 5 end;"
            + "chips 5;");
        Check.law(x, "half");
        Check.work(x, "pay 2;");
        int[][] want = {{2, 0, 2}, {2, 0, 2}, {1, 1, 0}, {1, 1, 0}};
        for (int years = 0; years < 4; years++) {
            for (int what = 0; what < 3; what++) {
                Check.due("ahead(" + years + ", " + what + ")", x.ahead(years, what), want[years][what]);
            }
        }
        Check.due("in 8", x.ahead(8, 1), 1);
        Check.due("in 9", x.ahead(9, 1), 2);
        Check.due("in 100", x.ahead(100, 0), 0);
        Check.due("nothing stays changed", x.told(2), 0);
        Check.due("no depth either", x.depth(0, 1, 0), 9);
        Check.none("ahead(101, 0)", () -> x.ahead(101, 0));
        Check.none("ahead(-1, 0)", () -> x.ahead(-1, 0));
        Check.none("ahead(0, 3)", () -> x.ahead(0, 3));
        Check.none("ahead(0, -1)", () -> x.ahead(0, -1));
        PotHill y = Check.on("person 9;person 9;pot 0 1 1 0 9 9 9 end;");
        Check.law(y, "(year - 249) * 9");
        Check.work(y, "again 20[again 20[year;];];");
        Check.work(y, "again 20[year;];");
        Check.due("the year", y.told(2), 200);
        Check.due("beyond 200 it goes on: in 50", y.ahead(50, 1), 0);
        Check.due("in 51", y.ahead(51, 1), 1);
        Check.due("by goats, too", y.goats(1, 0, 51, 3), 1);
        Check.due("it lasts", y.lasts(0), 51);
    }

    private static void goats() {
        PotHill x = Check.on("person 9;person 9;pot 0 1 1 0 3 3 3 end;heap 3 5;heap 4 4;steep 9;");
        Check.law(x, "1");
        Check.due("no goat by Q 0", x.goats(7, 0, 100, 0), 0);
        Check.due("the heap as it was", x.goats(7, 0, 100, 2), 5);
        Check.due("in 2 years", x.goats(7, 16, 2, 3), 0);
        Check.due("VOID in 3", x.goats(7, 16, 3, 3), 1);
        Check.due("nothing stays changed", x.told(5), 0);
        Check.due("nor the heap", x.height(3), 5);
        Check.none("q 17", () -> x.goats(1, 17, 1, 0));
        Check.none("q -1", () -> x.goats(1, -1, 1, 0));
        Check.none("0 years", () -> x.goats(1, 0, 0, 0));
        Check.none("101 years", () -> x.goats(1, 0, 101, 0));
        Check.none("what 4", () -> x.goats(1, 0, 1, 4));
        Check.none("what -1", () -> x.goats(1, 0, 1, -1));
    }

    private static int next(int seed) {
        return seed * 1103515245 + 12345;
    }

    private static int drawn(int seed, int by) {
        return (seed >>> 16) % 32768 % by;
    }

    /** One year of one goat, worked out beside the class for many seeds. */
    private static void goatsByHand() {
        int[] told = {3, 1, 0, 2, 2, 2, 0, 1};
        StringBuilder text = new StringBuilder("steep 9;");
        for (int column = 0; column < 8; column++) {
            text.append("heap ").append(column).append(' ').append(told[column]).append(';');
        }
        PotHill x = Check.on(text.toString());
        for (int seed = -40; seed < 40; seed++) {
            int first = next(seed * 77777);
            int second = next(first);
            int column = drawn(second, 8);
            boolean falls = drawn(first, 16) < 9 && told[column] > 0;
            Check.due("kicks of seed " + seed * 77777, x.goats(seed * 77777, 9, 1, 0), falls ? 1 : 0);
            int[] heights = told.clone();
            if (falls) {
                int left = column == 0 ? 99 : heights[column - 1];
                int right = column == 7 ? 99 : heights[column + 1];
                heights[column]--;
                heights[left <= right ? column - 1 : column + 1]++;
            }
            int most = 0;
            for (int h : heights) {
                most = Math.max(most, h);
            }
            Check.due("slides of seed " + seed * 77777, x.goats(seed * 77777, 9, 1, 1), 0);
            Check.due("the highest of seed " + seed * 77777, x.goats(seed * 77777, 9, 1, 2), most);
        }
    }

    /** A heap that would slide as told: a kick lets it slide, even where there was no shard to kick; no kick, no slide. */
    private static void unsteadyHeap() {
        PotHill x = Check.on("heap 0 9;steep 9;steep 8;");
        Check.due("no kick, no slide", x.goats(1, 0, 100, 1), 0);
        int seed = 0;
        while (drawn(next(next(seed)), 8) == 0) {
            seed++;
        }
        Check.due("no shard fell", x.goats(seed, 16, 1, 0), 0);
        Check.due("but it slid", x.goats(seed, 16, 1, 1), 1);
    }

    private static void span() {
        PotHill x = Check.on("person 9;person 9;pot 0 1 1 0 3 3 3 end;pot 0 1 1 0 3 3 3 end;heap 3 5;heap 4 4;steep 1;");
        Check.work(x, "throw 0 6;");
        int fewest = Integer.MAX_VALUE;
        int most = 0;
        for (int k = 0; k < 20; k++) {
            int slid = x.goats(90 + k, 12, 30, 1);
            fewest = Math.min(fewest, slid);
            most = Math.max(most, slid);
        }
        Check.due("the fewest", x.span(90, 20, 12, 30, 0, 0), fewest);
        Check.due("the most", x.span(90, 20, 12, 30, 1, 1), most);
        Check.due("not all alike", fewest < most ? 1 : 0, 1);
        Check.due("one seed", x.span(95, 1, 12, 30, 0, 0), x.goats(95, 12, 30, 1));
        Check.due("the most of none", x.span(95, 5, 0, 30, 1, 0), 0);
        Check.due("nothing kicked, all the same", x.span(90, 20, 0, 30, 2, 0), 20);
        int same = x.span(90, 20, 12, 30, 2, 0);
        int sum = 0;
        for (int k = 0; k < 20; k++) {
            sum += x.span(90 + k, 1, 12, 30, 2, 0);
        }
        Check.due("seed by seed", same, sum);
        Check.due("some are kicked away", same < 20 ? 1 : 0, 1);
        Check.due("not thrown", x.span(90, 20, 0, 30, 2, 1), 0);
        Check.due("seeds wrap", x.span(2147483647, 2, 12, 30, 1, 0),
            Math.max(x.goats(2147483647, 12, 30, 1), x.goats(-2147483648, 12, 30, 1)));
        for (int what = 0; what < 3; what++) {
            int w = what;
            Check.none("no such pot", () -> x.span(1, 1, 0, 1, w, 2));
            Check.none("no such pot", () -> x.span(1, 1, 0, 1, w, -1));
        }
        Check.none("many 0", () -> x.span(1, 0, 0, 1, 0, 0));
        Check.none("many 21", () -> x.span(1, 21, 0, 1, 0, 0));
        Check.none("q 17", () -> x.span(1, 1, 17, 1, 0, 0));
        Check.none("q -1", () -> x.span(1, 1, -1, 1, 0, 0));
        Check.none("0 years", () -> x.span(1, 1, 0, 0, 0, 0));
        Check.none("101 years", () -> x.span(1, 1, 0, 101, 0, 0));
        Check.none("what 3", () -> x.span(1, 1, 0, 1, 3, 0));
        Check.none("what -1", () -> x.span(1, 1, 0, 1, -1, 0));
        Check.due("all of them IllegalArgumentException", x.status(1), 14);
        Check.due("none the other", x.status(0), 0);
    }
}
