import java.util.Random;

/**
 * All promises: runs of random calls on a PotHill and on Plain, whose answers and refusals must be alike. Texts are
 * mostly sound, some are spoilt at a byte; numbers are mostly within their bounds, some are one beyond.
 */
public final class PlainTest {
    private static final int RUNS = 600;
    /** The document promises 512 calls; one step makes some 50 at most (an overlong text, twenty bytes at a time). */
    private static final int CALLS = 512 - 60;

    private final Random random;
    private final PotHill x = new PotHill();
    private final Plain y = new Plain();
    private int calls = 0;

    private PlainTest(int seed) {
        random = new Random(seed);
    }

    public static void main(String[] args) {
        int from = args.length > 0 ? Integer.parseInt(args[0]) : 1;
        int runs = args.length > 1 ? Integer.parseInt(args[1]) : RUNS;
        for (int run = from; run < from + runs; run++) {
            PlainTest test = new PlainTest(run);
            test.text(0);
            while (test.calls <= CALLS) {
                test.step("run " + run + ", call " + test.calls);
            }
        }
        Check.end("PlainTest");
    }

    private void alike(String what, Check.Call one, Check.Call other) {
        calls++;
        Check.due(what, answered(one), answered(other));
    }

    /** A refusal is told by a number that no answer is. */
    private static long answered(Check.Call call) {
        long[] got = new long[1];
        int thrown = Check.thrown(() -> {
            got[0] = call.answer();
            return 0;
        });
        return thrown == 0 ? got[0] : (1L << 40) + thrown;
    }

    private void step(String at) {
        int kind = random.nextInt(100);
        if (kind < 2) {
            text(0);
        } else if (kind < 6) {
            text(1);
        } else if (kind < 16) {
            text(2);
        } else if (kind < 20) {
            text(3);
        } else {
            ask(at);
        }
        alike(at + ", then fault()", x::fault, y::fault);
    }

    private int pick(int least, int most) {
        return random.nextInt(40) == 0 ? (random.nextBoolean() ? least - 1 : most + 1)
            : least + random.nextInt(Math.max(1, most - least + 1));
    }

    private void text(int kind) {
        String text = kind == 0 ? hillText() : kind == 1 ? lawText() : kind == 2 ? workText() : thumbText();
        text = random.nextInt(4) == 0 ? text.replace(" ", "  ").replace(";", " ; ") : text;
        text = random.nextInt(6) == 0 ? spoilt(text) : text;
        int most = new int[] {600, 150, 150, 60}[kind];
        text = text.length() > most && random.nextInt(9) > 0 ? text.substring(0, most) : text;
        feed(text);
        int n = random.nextInt(60) == 0 ? random.nextInt(650) - 20 : text.length();
        switch (kind) {
            case 0:
                alike("hill '" + text + "' of " + n, () -> x.hill(n), () -> y.hill(n));
                break;
            case 1:
                alike("law '" + text + "' of " + n, () -> x.law(n), () -> y.law(n));
                break;
            case 2:
                alike("work '" + text + "' of " + n, () -> x.work(n), () -> y.work(n));
                break;
            default:
                alike("thumb '" + text + "' of " + n, () -> x.thumb(n), () -> y.thumb(n));
                break;
        }
    }

    private void feed(String text) {
        int[] a = new int[5];
        for (int from = 0; from < text.length(); from += 20) {
            for (int k = 0; k < 20; k++) {
                int sign = from + k < text.length() ? text.charAt(from + k) : random.nextInt(256);
                a[k / 4] = a[k / 4] << 8 | sign;
            }
            alike("feed", () -> x.feed(a[0], a[1], a[2], a[3], a[4]), () -> y.feed(a));
        }
    }

    private String spoilt(String text) {
        String signs = " ;;[](),+-*/019ax\t";
        StringBuilder s = new StringBuilder(text);
        int at = random.nextInt(s.length() + 1);
        char sign = random.nextInt(9) == 0 ? (char) random.nextInt(256) : signs.charAt(random.nextInt(signs.length()));
        int how = random.nextInt(4);
        if (how == 0) {
            s.setLength(at);
        } else if (how == 1 || at == s.length()) {
            s.insert(at, sign);
        } else if (how == 2) {
            s.setCharAt(at, sign);
        } else {
            s.deleteCharAt(at);
        }
        return s.toString();
    }

    private String hillText() {
        StringBuilder s = new StringBuilder();
        int people = 2 + random.nextInt(random.nextInt(9) == 0 ? 8 : 6);
        for (int k = 0; k < people; k++) {
            s.append("person ").append(pick(0, 99)).append(';');
        }
        int pots = random.nextInt(random.nextInt(9) == 0 ? 10 : 9);
        int deepest = 1 + random.nextInt(9);
        for (int k = 0; k < pots; k++) {
            int creditor = random.nextInt(people);
            int debtor = random.nextInt(30) == 0 ? creditor : (creditor + 1 + random.nextInt(people - 1)) % people;
            s.append("pot ").append(creditor).append(' ').append(debtor).append(' ').append(pick(1, 40)).append(' ');
            s.append(random.nextInt(3) == 0 ? pick(0, 60) : random.nextInt(4));
            for (int many = pick(3, 6); many > 0; many--) {
                s.append(' ').append(random.nextInt(deepest + 1));
            }
            s.append(" end;");
        }
        for (int k = random.nextInt(10); k > 0; k--) {
            s.append("heap ").append(pick(0, 7)).append(' ').append(pick(0, 9)).append(';');
        }
        s.append(random.nextBoolean() ? "" : "chips " + pick(0, 20) + ";");
        return s.append(random.nextBoolean() ? "" : "steep " + pick(1, 9) + ";").toString();
    }

    private String lawText() {
        String[] often = {"1", "half", "age / 2", "due", "place - 1", "depth / 3", "least[1,half + due]"};
        return random.nextBoolean() ? often[random.nextInt(often.length)] : expression(random.nextInt(8));
    }

    private String expression(int level) {
        if (level <= 0) {
            String[] words = {"depth", "place", "half", "year", "age", "due"};
            return random.nextBoolean() ? words[random.nextInt(6)] : String.valueOf(pick(0, random.nextInt(4) == 0 ? 999 : 9));
        }
        switch (random.nextInt(4)) {
            case 0:
                return "(" + expression(level - 1) + ")";
            case 1:
                return (random.nextBoolean() ? "least[" : "most[") + expression(level - 1) + ","
                    + expression(random.nextInt(2)) + "]";
            default:
                return expression(random.nextInt(level)) + " " + "+-*/".charAt(random.nextInt(4)) + " " + expression(level - 1);
        }
    }

    private String workText() {
        StringBuilder s = new StringBuilder();
        for (int k = random.nextInt(7); k > 0; k--) {
            s.append(stepText(random.nextInt(12) == 0 ? 7 : 3)).append(';');
        }
        return s.toString();
    }

    private String stepText(int level) {
        int pot = pick(0, y.told(1) - 1);
        switch (random.nextInt(level > 0 ? 8 : 7)) {
            case 0:
                return "pay " + pot;
            case 1:
                return "give " + pot + " " + pick(0, 1) + " " + pick(0, y.told(0) - 1);
            case 2:
            case 3:
                return "throw " + pot + " " + pick(0, 7);
            case 4:
                return "dig " + pick(0, 7);
            case 5:
            case 6:
                return "year";
            default:
                StringBuilder s = new StringBuilder("again ").append(random.nextInt(9) == 0 ? pick(0, 20) : random.nextInt(4));
                s.append('[');
                for (int k = random.nextInt(3); k > 0; k--) {
                    s.append(stepText(level - 1)).append(';');
                }
                return s.append(']').toString();
        }
    }

    private String thumbText() {
        StringBuilder s = new StringBuilder();
        int pots = y.told(1);
        int pot = random.nextInt(Math.max(1, pots));
        int from = random.nextInt(6);
        for (int k = random.nextInt(random.nextInt(3) == 0 ? 8 : 3); k > 0; k--) {
            int place = random.nextInt(30) == 0 ? pick(0, 5) : (from + k) % 6;
            boolean right = pots > 0 && place >= 0 && place < y.pot(pot, 2) && random.nextInt(6) > 0;
            s.append(place).append(' ').append(right ? y.depth(pot, k % 2, place) : pick(0, 9)).append(';');
        }
        return s.toString();
    }

    private void ask(String at) {
        int people = y.told(0);
        int pots = y.told(1);
        int person = pick(0, people - 1);
        int other = pick(0, people - 1);
        int pot = pick(0, pots - 1);
        int half = pick(0, 2 * pots - 1);
        int half2 = pick(0, 2 * pots - 1);
        int column = pick(0, 7);
        int two = pick(0, 1);
        int seed = random.nextInt();
        int q = pick(0, 16);
        int years = pick(1, 100);
        switch (random.nextInt(36)) {
            case 0: told(at, pick(0, 9)); break;
            case 1: alike(at + " has", () -> x.has(person), () -> y.has(person)); break;
            case 2: potWhat(at, pot, pick(0, 7)); break;
            case 3: depth(at, pot, two, pick(0, 5)); break;
            case 4: would(at); break;
            case 5: alike(at + " meets", () -> x.meets(pot) ? 1 : 0, () -> y.meets(pot)); break;
            case 6: alike(at + " lasts", () -> x.lasts(pot), () -> y.lasts(pot)); break;
            case 7: alike(at + " owed", () -> x.owed(person, other), () -> y.owed(person, other)); break;
            case 8: alike(at + " height", () -> x.height(column), () -> y.height(column)); break;
            case 9: shard(at, column, pick(0, 12)); break;
            case 10: alike(at + " safe", x::safe, y::safe); break;
            case 11: alike(at + " tossed", () -> x.tossed(column, two), () -> y.tossed(column, two)); break;
            case 12: alike(at + " baskets", () -> x.baskets(pot), () -> y.baskets(pot)); break;
            case 13: alike(at + " order", x::order, y::order); break;
            case 14: alike(at + " mean", () -> x.mean(two), () -> y.mean(two)); break;
            case 15: alike(at + " fits", x::fits, y::fits); break;
            case 16: alike(at + " feel", () -> x.feel(two), () -> y.feel(two)); break;
            case 17: alike(at + " forge", () -> x.forge(half, half2), () -> y.forge(half, half2)); break;
            case 18: alike(at + " easiest", () -> x.easiest(half), () -> y.easiest(half)); break;
            case 19: alike(at + " tell", x::tell, y::tell); break;
            case 20: alike(at + " net", () -> x.net(person), () -> y.net(person)); break;
            case 21: alike(at + " struck", x::struck, y::struck); break;
            case 22: alike(at + " ring", () -> x.ring(two), () -> y.ring(two)); break;
            case 23: gets(at, pot, pick(0, random.nextBoolean() ? 400 : 60)); break;
            case 24: alike(at + " holds", () -> x.holds(person, two), () -> y.holds(person, two)); break;
            case 25: alike(at + " deep", () -> x.deep(half, two), () -> y.deep(half, two)); break;
            case 26: ahead(at, random.nextBoolean() ? pick(0, 100) : pick(0, 9), pick(0, 2)); break;
            case 27: goats(at, seed, q, years, pick(0, 3)); break;
            case 28: span(at, new int[] {seed, pick(1, 20), q, years, pick(0, 2), pot}); break;
            case 29: alike(at + " image", x::image, y::image); break;
            case 30: alike(at + " restore", x::restore, y::restore); break;
            case 31:
            case 32: alike(at + " undo", x::undo, y::undo); break;
            case 33: alike(at + " status", () -> x.status(two), () -> y.status(two)); break;
            case 34: counts(at, pick(0, 2)); break;
            default: told(at, 9); break;
        }
    }

    private void told(String at, int what) {
        alike(at + " told " + what, () -> x.told(what), () -> y.told(what));
    }

    private void potWhat(String at, int pot, int what) {
        alike(at + " pot " + pot + " " + what, () -> x.pot(pot, what), () -> y.pot(pot, what));
    }

    private void depth(String at, int pot, int half, int place) {
        alike(at + " depth", () -> x.depth(pot, half, place), () -> y.depth(pot, half, place));
    }

    private void would(String at) {
        int[] a = {pick(0, 9), pick(0, 5), pick(0, 1), pick(0, 200), pick(0, 200), pick(0, 1)};
        alike(at + " would", () -> x.would(a[0], a[1], a[2], a[3], a[4], a[5]),
            () -> y.would(a[0], a[1], a[2], a[3], a[4], a[5]));
    }

    private void shard(String at, int column, int k) {
        alike(at + " shard", () -> x.shard(column, k), () -> y.shard(column, k));
    }

    private void gets(String at, int pot, int n) {
        alike(at + " gets", () -> x.gets(pot, n), () -> y.gets(pot, n));
    }

    private void ahead(String at, int years, int what) {
        alike(at + " ahead", () -> x.ahead(years, what), () -> y.ahead(years, what));
    }

    private void goats(String at, int seed, int q, int years, int what) {
        alike(at + " goats", () -> x.goats(seed, q, years, what), () -> y.goats(seed, q, years, what));
    }

    private void span(String at, int[] a) {
        alike(at + " span", () -> x.span(a[0], a[1], a[2], a[3], a[4], a[5]),
            () -> y.span(a[0], a[1], a[2], a[3], a[4], a[5]));
    }

    private void counts(String at, int what) {
        alike(at + " count", () -> x.count(what), () -> y.count(what));
    }
}
