import java.util.Random;

/**
 * Any calls with any arguments and texts: nothing but the two exceptions of the document comes out, they are counted,
 * and what only asks changes nothing.
 */
public final class AnyCallTest {
    private static final String[] PARTS = {"person ", "pot ", "heap ", "chips ", "steep ", "end", ";", ";", ";", " ",
        "pay ", "give ", "throw ", "dig ", "year", "again ", "[", "]", "(", ")", "+", "-", "*", "/", ",", "depth",
        "place", "half", "age", "due", "least", "most", "0 ", "1 ", "2 ", "3 ", "7 ", "9 ", "41 ", "1000 ", "x", "\0"};
    private static final String HILL = "person 50;person 20;person 5;pot 0 1 10 2 5 3 7 end;pot 1 2 4 0 1 1 1 1 end;"
        + "pot 2 0 6 5 9 0 9 end;heap 3 4;heap 4 1;chips 3;steep 2;";
    private static final int[] ODD = {Integer.MIN_VALUE, -2, -1, 0, 1, 2, 3, 5, 8, 9, 16, 17, 100, 101, 150, 151, 200,
        400, 401, 600, 601, Integer.MAX_VALUE};

    public static void main(String[] args) {
        Random random = new Random(3);
        for (int run = 0; run < 200; run++) {
            PotHill x = run % 4 == 0 ? new PotHill() : Check.on(run % 4 == 1 ? FullTest.fullHill() : HILL);
            int[] refused = {0, 0, 0, 0};
            for (int k = 0; k < 200; k++) {
                refused[Check.thrown(any(x, random))]++;
            }
            Check.due("run " + run + ": what the machine threw", refused[3], 0);
            Check.due("run " + run + ": status(0)", x.status(0), refused[1]);
            Check.due("run " + run + ": status(1)", x.status(1), refused[2]);
            String before = everything(x);
            for (int k = 0; k < 100; k++) {
                Check.thrown(asking(x, random, 5 + random.nextInt(29)));
            }
            Check.due("run " + run + ": nothing stays changed", everything(x).equals(before) ? 1 : 0, 1);
        }
        Check.end("AnyCallTest");
    }

    private static int number(Random random) {
        return random.nextInt(3) == 0 ? ODD[random.nextInt(ODD.length)] : random.nextInt(9);
    }

    private static Check.Call any(PotHill x, Random random) {
        int kind = random.nextInt(45);
        if (kind > 33) {
            int n = Check.put(x, text(random)) + (random.nextInt(9) == 0 ? number(random) : 0);
            switch (kind % 4) {
                case 0:
                    return () -> x.hill(n);
                case 1:
                    return () -> x.law(n);
                case 2:
                    return () -> x.work(n);
                default:
                    return () -> x.thumb(n);
            }
        }
        return asking(x, random, kind);
    }

    private static String text(Random random) {
        StringBuilder text = new StringBuilder(random.nextInt(9) == 0 ? HILL : "");
        int many = random.nextInt(30);
        for (int k = 0; k < many; k++) {
            text.append(PARTS[random.nextInt(PARTS.length)]);
        }
        return text.toString();
    }

    private static Check.Call asking(PotHill x, Random random, int kind) {
        int a = number(random);
        int b = number(random);
        int c = number(random);
        int d = number(random);
        int e = number(random);
        int f = number(random);
        Check.Call[] calls = {
            () -> x.undo(), () -> x.image(), () -> x.restore(), () -> x.work(0), () -> x.thumb(0),
            () -> x.told(a), () -> x.has(a), () -> x.pot(a, b), () -> x.depth(a, b, c),
            () -> x.would(a, b, c, d, e, f), () -> x.meets(a) ? 1 : 0, () -> x.lasts(a), () -> x.owed(a, b),
            () -> x.height(a), () -> x.shard(a, b), () -> x.safe(), () -> x.tossed(a, b), () -> x.baskets(a),
            () -> x.order(), () -> x.mean(a), () -> x.fits(), () -> x.feel(a), () -> x.forge(a, b),
            () -> x.easiest(a), () -> x.tell(), () -> x.net(a), () -> x.struck(), () -> x.ring(a),
            () -> x.gets(a, b), () -> x.holds(a, b), () -> x.deep(a, b), () -> x.ahead(a, b),
            () -> x.goats(a, b, c, d), () -> x.span(a, b, c, d, e, f)};
        return calls[kind];
    }

    /** All that can be told of the hill as it is. */
    static String everything(PotHill x) {
        StringBuilder all = new StringBuilder();
        for (int what = 0; what <= 9; what++) {
            all.append(x.told(what)).append(' ');
        }
        for (int pot = 0; pot < x.told(1); pot++) {
            for (int what = 0; what <= 7; what++) {
                all.append(x.pot(pot, what)).append(' ');
            }
            for (int k = 0; k < 2 * x.pot(pot, 2); k++) {
                all.append(x.depth(pot, k % 2, k / 2)).append(' ');
            }
            all.append(x.lasts(pot)).append(' ');
        }
        for (int person = 0; person < x.told(0); person++) {
            all.append(x.has(person)).append(' ').append(x.holds(person, 0)).append(' ');
        }
        for (int column = 0; column < 8; column++) {
            for (int k = 0; k <= x.height(column); k++) {
                all.append(x.shard(column, k)).append(' ');
            }
        }
        all.append(x.fault()).append(' ').append(x.count(0)).append(' ').append(x.count(1)).append(' ');
        return all.append(x.count(2)).append(' ').append(x.fits()).toString();
    }
}
