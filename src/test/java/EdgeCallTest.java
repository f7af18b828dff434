import java.util.ArrayList;
import java.util.List;

/**
 * What each call refuses: every argument of every call at both its bounds, one beyond each, and far beyond; which of two
 * refusals comes ahead; that each is counted once and changes nothing. Then promises 38 to 41.
 */
public final class EdgeCallTest {
    private static final String HILL = "person 10;person 20;person 5;pot 0 1 4 0 9 9 9 end;pot 1 2 4 0 9 9 9 9 9 end;"
        + "heap 3 2;";
    private static final int NO_SUCH = 1;
    private static final int WRONG = 2;

    /** A call with its arguments in a row, and for each argument its bounds and what refuses it (0: nothing). */
    private interface Row {
        int answer(PotHill x, int[] a);
    }

    private static final class Kind {
        final String name;
        final int[][] bounds;
        final Row row;

        Kind(String name, Row row, int[]... bounds) {
            this.name = name;
            this.row = row;
            this.bounds = bounds;
        }
    }

    public static void main(String[] args) {
        for (Kind kind : kinds()) {
            bounds(kind);
            pairs(kind);
        }
        placesOfEachPot();
        noPeopleNoPots();
        boundsFollowTheHill();
        eightOfEach();
        images();
        imagesAndWorks();
        whatAnImageIsOf();
        status();
        counts();
        manyCalls();
        Check.end("EdgeCallTest");
    }

    private static int[] such(int many) {
        return new int[] {0, many - 1, NO_SUCH};
    }

    private static int[] from(int least, int most) {
        return new int[] {least, most, WRONG};
    }

    private static int[] any() {
        return new int[] {Integer.MIN_VALUE, Integer.MAX_VALUE, 0};
    }

    private static List<Kind> kinds() {
        List<Kind> all = new ArrayList<>();
        all.add(new Kind("told", (x, a) -> x.told(a[0]), from(0, 9)));
        all.add(new Kind("has", (x, a) -> x.has(a[0]), such(3)));
        all.add(new Kind("pot", (x, a) -> x.pot(a[0], a[1]), such(2), from(0, 7)));
        all.add(new Kind("depth", (x, a) -> x.depth(a[0], a[1], a[2]), such(2), such(2), such(3)));
        all.add(new Kind("would", (x, a) -> x.would(a[0], a[1], a[2], a[3], a[4], a[5]), from(0, 9), from(0, 5),
            from(0, 1), from(0, 200), from(0, 200), from(0, 1)));
        all.add(new Kind("meets", (x, a) -> x.meets(a[0]) ? 1 : 0, such(2)));
        all.add(new Kind("lasts", (x, a) -> x.lasts(a[0]), such(2)));
        all.add(new Kind("owed", (x, a) -> x.owed(a[0], a[1]), such(3), such(3)));
        all.add(new Kind("height", (x, a) -> x.height(a[0]), from(0, 7)));
        all.add(new Kind("shard", (x, a) -> x.shard(a[0], a[1]), from(0, 7), from(0, Integer.MAX_VALUE)));
        all.add(new Kind("tossed", (x, a) -> x.tossed(a[0], a[1]), from(0, 7), from(0, 1)));
        all.add(new Kind("baskets", (x, a) -> x.baskets(a[0]), such(2)));
        all.add(new Kind("mean", (x, a) -> x.mean(a[0]), from(0, 1)));
        all.add(new Kind("feel", (x, a) -> x.feel(a[0]), from(0, 1)));
        all.add(new Kind("forge", (x, a) -> x.forge(a[0], a[1]), such(4), such(4)));
        all.add(new Kind("easiest", (x, a) -> x.easiest(a[0]), such(4)));
        all.add(new Kind("net", (x, a) -> x.net(a[0]), such(3)));
        all.add(new Kind("ring", (x, a) -> x.ring(a[0]), from(0, 1)));
        all.add(new Kind("gets", (x, a) -> x.gets(a[0], a[1]), such(2), from(0, 400)));
        all.add(new Kind("holds", (x, a) -> x.holds(a[0], a[1]), such(3), from(0, 1)));
        all.add(new Kind("deep", (x, a) -> x.deep(a[0], a[1]), such(4), from(0, 1)));
        all.add(new Kind("ahead", (x, a) -> x.ahead(a[0], a[1]), from(0, 100), from(0, 2)));
        all.add(new Kind("goats", (x, a) -> x.goats(a[0], a[1], a[2], a[3]), any(), from(0, 16), from(1, 100), from(0, 3)));
        all.add(new Kind("span", (x, a) -> x.span(a[0], a[1], a[2], a[3], a[4], a[5]), any(), from(1, 20), from(0, 16),
            from(1, 100), from(0, 2), from(0, 1)));
        return all;
    }

    private static PotHill ready() {
        PotHill x = Check.on(HILL);
        Check.law(x, "1");
        Check.thumb(x, "0 9;");
        Check.work(x, "throw 0 3;year;dig 0;");
        x.image();
        Check.law(x, "1 +");
        x.feed(1, 2, 3, 4, 5);
        return x;
    }

    private static int[] least(Kind kind) {
        int[] a = new int[kind.bounds.length];
        for (int k = 0; k < a.length; k++) {
            a[k] = kind.bounds[k][0];
        }
        return a;
    }

    private static void call(Kind kind, PotHill x, int[] a, int want) {
        int none = x.status(0);
        int wrong = x.status(1);
        Check.due(kind.name + java.util.Arrays.toString(a) + " (0 answers, 1 NoSuchElement, 2 IllegalArgument)",
            Check.thrown(() -> kind.row.answer(x, a)), want);
        Check.due(kind.name + ": status(0) behind it", x.status(0), none + (want == NO_SUCH ? 1 : 0));
        Check.due(kind.name + ": status(1) behind it", x.status(1), wrong + (want == WRONG ? 1 : 0));
    }

    private static int[] outside(int[] bound) {
        if (bound[2] == 0) {
            return new int[0];
        }
        if (bound[1] == Integer.MAX_VALUE) {
            return new int[] {bound[0] - 1, Integer.MIN_VALUE};
        }
        return new int[] {bound[0] - 1, bound[1] + 1, Integer.MIN_VALUE, Integer.MAX_VALUE};
    }

    private static void bounds(Kind kind) {
        PotHill x = ready();
        String before = AnyCallTest.everything(x);
        for (int k = 0; k < kind.bounds.length; k++) {
            int[] a = least(kind);
            call(kind, x, a, 0);
            a[k] = kind.bounds[k][1];
            call(kind, x, a, 0);
            for (int wrong : outside(kind.bounds[k])) {
                a[k] = wrong;
                call(kind, x, a, kind.bounds[k][2]);
            }
        }
        Check.due(kind.name + ": nothing stays changed", AnyCallTest.everything(x).equals(before) ? 1 : 0, 1);
    }

    /** "NoSuchElementException: no such PERSON, POT, half, PLACE (so below, ahead of others)". */
    private static void pairs(Kind kind) {
        for (int i = 0; i < kind.bounds.length; i++) {
            for (int j = i + 1; j < kind.bounds.length; j++) {
                PotHill x = ready();
                for (int one : outside(kind.bounds[i])) {
                    for (int other : outside(kind.bounds[j])) {
                        int[] a = least(kind);
                        a[i] = one;
                        a[j] = other;
                        boolean such = kind.bounds[i][2] == NO_SUCH || kind.bounds[j][2] == NO_SUCH;
                        call(kind, x, a, such ? NO_SUCH : WRONG);
                    }
                }
            }
        }
    }

    /** "no such .. PLACE": 3 of the first POT, 5 of the second. */
    private static void placesOfEachPot() {
        PotHill x = Check.on(HILL);
        Check.due("PLACE 2 of 3", Check.thrown(() -> x.depth(0, 1, 2)), 0);
        Check.noSuch("PLACE 3 of 3", () -> x.depth(0, 1, 3));
        Check.due("PLACE 4 of 5", Check.thrown(() -> x.depth(1, 1, 4)), 0);
        Check.noSuch("PLACE 5 of 5", () -> x.depth(1, 1, 5));
    }

    /** Promise 1: "A HILL without CLAUSES". */
    private static void noPeopleNoPots() {
        PotHill x = new PotHill();
        Check.noSuch("has(0)", () -> x.has(0));
        Check.noSuch("pot(0, 8)", () -> x.pot(0, 8));
        Check.noSuch("depth(0, 0, 0)", () -> x.depth(0, 0, 0));
        Check.noSuch("meets(0)", () -> x.meets(0) ? 1 : 0);
        Check.noSuch("lasts(0)", () -> x.lasts(0));
        Check.noSuch("owed(0, 0)", () -> x.owed(0, 0));
        Check.noSuch("baskets(0)", () -> x.baskets(0));
        Check.noSuch("forge(0, 0)", () -> x.forge(0, 0));
        Check.noSuch("easiest(0)", () -> x.easiest(0));
        Check.noSuch("net(0)", () -> x.net(0));
        Check.noSuch("gets(0, 401)", () -> x.gets(0, 401));
        Check.noSuch("holds(0, 2)", () -> x.holds(0, 2));
        Check.noSuch("deep(0, 2)", () -> x.deep(0, 2));
        Check.due("13", x.status(0), 13);
        for (int what = 0; what < 3; what++) {
            int w = what;
            Check.none("span of no POT", () -> x.span(1, 1, 0, 1, w, 0));
        }
        Check.due("3", x.status(1), 3);
        Check.due("ahead(100, 0)", x.ahead(100, 0), 0);
        Check.due("ahead(100, 2)", x.ahead(100, 2), 0);
        Check.due("goats(1, 16, 100, 3)", x.goats(1, 16, 100, 3), 0);
        Check.due("order()", x.order(), 0);
        Check.due("mean(0)", x.mean(0), 0);
        Check.due("mean(1)", x.mean(1), 1);
        Check.due("safe()", x.safe(), 255);
        Check.due("tossed(7, 0)", x.tossed(7, 0), 0);
        Check.due("tossed(7, 1)", x.tossed(7, 1), 7);
        Check.due("ring(1)", x.ring(1), -1);
        Check.due("image()", x.image(), 1);
    }

    /** A POT or PERSON of an older HILL is none such any more. */
    private static void boundsFollowTheHill() {
        PotHill x = Check.on(HILL);
        Check.due("a smaller HILL", Check.hill(x, "person 1;person 1;pot 0 1 1 1 1 1 1 end;"), 1);
        Check.noSuch("PERSON 2", () -> x.has(2));
        Check.noSuch("POT 1", () -> x.pot(1, 0));
        Check.noSuch("half 2", () -> x.deep(2, 0));
        Check.none("span of POT 1", () -> x.span(1, 1, 0, 1, 0, 1));
        Check.due("a FAULT", Check.hill(x, HILL + "x"), -9);
        Check.noSuch("still no POT 1", () -> x.pot(1, 0));
        Check.due("the larger one", Check.hill(x, HILL), 2);
        Check.due("PERSON 2", x.has(2), 5);
    }

    private static void eightOfEach() {
        PotHill x = Check.on(FullTest.fullHill());
        Check.due("PERSON 7", x.has(7), 99);
        Check.noSuch("PERSON 8", () -> x.has(8));
        Check.due("POT 7", x.pot(7, 2), 6);
        Check.noSuch("POT 8", () -> x.pot(8, 2));
        Check.due("half 15", x.deep(15, 0), 5);
        Check.noSuch("half 16", () -> x.deep(16, 0));
        Check.noSuch("forge(16, 0)", () -> x.forge(16, 0));
        Check.noSuch("forge(0, 16)", () -> x.forge(0, 16));
        Check.due("span of POT 7", x.span(1, 20, 16, 100, 2, 7), 0);
        Check.none("span of POT 8", () -> x.span(1, 20, 16, 100, 2, 8));
    }

    /** Promises 38 and 39: "how many there are; -1: there are 3"; "how many are left; -1: there is none". */
    private static void images() {
        PotHill x = Check.on(HILL);
        Check.due("there is none", x.restore(), -1);
        for (int k = 1; k <= 3; k++) {
            Check.due("image()", x.image(), k);
            Check.work(x, "year;");
        }
        Check.due("there are 3", x.image(), -1);
        Check.due("still 3", x.count(0), 3);
        Check.work(x, "year;");
        for (int k = 2; k >= 0; k--) {
            Check.due("restore()", x.restore(), k);
            Check.due("the latest of them", x.told(2), k);
            Check.due("count(0)", x.count(0), k);
        }
        Check.work(x, "year;");
        Check.due("there is none", x.restore(), -1);
        Check.due("nothing is restored", x.told(2), 1);
        Check.due("one may be made again", x.image(), 1);
    }

    private static void imagesAndWorks() {
        PotHill x = Check.on(HILL);
        Check.work(x, "year;");
        x.image();
        Check.work(x, "year;");
        Check.due("an IMAGE is not undone", x.undo(), 1);
        Check.due("undone ahead of the IMAGE", x.undo(), 0);
        Check.due("none", x.undo(), -1);
        Check.due("restore()", x.restore(), 0);
        Check.due("YEAR 1", x.told(2), 1);
        Check.due("the WORK can be undone", x.count(2), 1);
        Check.due("so", x.undo(), 0);
        Check.due("YEAR 0", x.told(2), 0);
        x.image();
        for (int k = 0; k < 16; k++) {
            Check.work(x, "");
        }
        Check.due("16 are there", x.work(0), -20);
        Check.due("restore()", x.restore(), 0);
        Check.due("none can be undone", x.count(2), 0);
        Check.due("so one may be done", Check.work(x, "year;"), 1);
    }

    /** "An IMAGE of all that WORK changes, and of WORKS that can be undone": no LAW, no THUMB, no TAPE, no FAULT. */
    private static void whatAnImageIsOf() {
        PotHill x = Check.on(HILL + "chips 20;steep 9;");
        Check.law(x, "age + 1");
        Check.work(x, "year;");
        x.image();
        Check.law(x, "age + 3");
        Check.thumb(x, "1 1;");
        Check.work(x, "give 0 0 2;throw 1 5;dig 3;year;pay 0;pay 1;");
        Check.law(x, "age +");
        x.feed(1, 2, 3, 4, 5);
        x.restore();
        Check.due("the TAPE stays", x.count(1), 20);
        Check.due("the FAULT stays", x.fault(), 5);
        Check.due("the LAW stays", x.would(9, 0, 0, 0, 0, 0), 3);
        Check.due("the THUMB stays", x.told(8), 1);
        Check.due("YEAR", x.told(2), 1);
        Check.due("OPEN", x.told(3), 2);
        Check.due("has", x.has(1), 20);
        Check.due("half 0's holder", x.pot(0, 4), 0);
        Check.due("DEPTH", x.depth(0, 0, 0), 8);
        Check.due("third shard", x.pot(1, 7), -1);
        Check.due("old shards", x.height(3), 2);
        x.hill(0);
        Check.hill(x, HILL + "chips 20;");
        Check.law(x, "age * 2");
        Check.work(x, "year;");
        x.image();
        Check.work(x, "give 0 0 2;");
        x.restore();
        Check.work(x, "year;");
        Check.due("YEARS held are kept", x.depth(0, 0, 0), 7);
    }

    /** Promise 40: "How many calls were refused: 0 .., 1 ..; NONE for others. (No IMAGE keeps it.)". */
    private static void status() {
        PotHill x = Check.on(HILL);
        Check.due("none yet", x.status(0), 0);
        Check.due("none yet", x.status(1), 0);
        x.image();
        Check.thrown(() -> x.has(3));
        Check.thrown(() -> x.told(10));
        Check.thrown(() -> x.pot(9, 9));
        Check.due("2", x.status(0), 2);
        Check.due("1", x.status(1), 1);
        x.restore();
        Check.due("no IMAGE keeps it", x.status(0), 2);
        Check.due("no IMAGE keeps it", x.status(1), 1);
        Check.work(x, "year;");
        Check.thrown(() -> x.has(3));
        x.undo();
        Check.due("nor is it undone", x.status(0), 3);
        Check.hill(x, "");
        Check.due("nor begun anew", x.status(0), 3);
        int[] others = {-1, 2, Integer.MIN_VALUE, Integer.MAX_VALUE};
        for (int what : others) {
            Check.due("status(" + what + ")", x.status(what), -1);
        }
        Check.due("that is no refusal", x.status(1), 1);
        x.undo();
        x.restore();
        Check.law(x, "x");
        Check.due("nor is an answer of -1 or a FAULT", x.status(0) + x.status(1), 4);
    }

    /** Promise 41: "0 IMAGES, 1 bytes of the TAPE, 2 WORKS that can be undone; NONE for others". */
    private static void counts() {
        PotHill x = new PotHill();
        for (int what = 0; what < 3; what++) {
            Check.due("at first", x.count(what), 0);
        }
        x.feed(0, 0, 0, 0, 0);
        x.feed(0, 0, 0, 0, 0);
        x.image();
        Check.due("0", x.count(0), 1);
        Check.due("1", x.count(1), 40);
        Check.due("2", x.count(2), 0);
        x.work(0);
        Check.due("1", x.count(1), 0);
        Check.due("2", x.count(2), 1);
        x.undo();
        Check.due("2", x.count(2), 0);
        int[] others = {-1, 3, Integer.MIN_VALUE, Integer.MAX_VALUE};
        for (int what : others) {
            Check.due("count(" + what + ")", x.count(what), -1);
        }
        Check.due("that is no refusal", x.status(1), 0);
    }

    /** "An object is used for at most 512 calls": the last of them answers as the first does. */
    private static void manyCalls() {
        PotHill x = Check.on(FullTest.fullHill());
        int slid = x.goats(7, 16, 100, 1);
        for (int k = 0; k < 240; k++) {
            x.work(0);
            x.undo();
        }
        Check.due("no WORK is left", x.count(2), 0);
        Check.due("as at first", x.goats(7, 16, 100, 1), slid);
    }
}
