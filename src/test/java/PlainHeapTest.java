import java.util.ArrayList;
import java.util.List;
import java.util.Random;

/** Promises 17 to 21, 36 and 37 against a heap of plain lists that slides just as the terms are worded. */
public final class PlainHeapTest {
    private static final int TOSSED = 99;

    private final List<List<Integer>> columns = new ArrayList<>();
    private final int steep;

    private PlainHeapTest(int[] old, int steep) {
        this.steep = steep;
        for (int h : old) {
            List<Integer> column = new ArrayList<>();
            for (int k = 0; k < h; k++) {
                column.add(-2);
            }
            columns.add(column);
        }
    }

    private PlainHeapTest(PlainHeapTest other) {
        steep = other.steep;
        for (List<Integer> column : other.columns) {
            columns.add(new ArrayList<>(column));
        }
    }

    private int high(int column) {
        return columns.get(column).size();
    }

    private void fall(int from) {
        int to = -1;
        for (int beside = from - 1; beside <= from + 1; beside += 2) {
            if (beside >= 0 && beside < 8 && (to < 0 || high(beside) < high(to))) {
                to = beside;
            }
        }
        columns.get(to).add(columns.get(from).remove(high(from) - 1));
    }

    private int slide() {
        int slides = 0;
        boolean again = true;
        while (again) {
            again = false;
            for (int column = 0; column < 8 && !again; column++) {
                boolean left = column > 0 && high(column) > high(column - 1) + steep;
                boolean right = column < 7 && high(column) > high(column + 1) + steep;
                if (left || right) {
                    fall(column);
                    slides++;
                    again = true;
                }
            }
        }
        return slides;
    }

    private int where(int shard) {
        for (int column = 0; column < 8; column++) {
            if (columns.get(column).contains(shard)) {
                return column;
            }
        }
        return -1;
    }

    private int[] kicked(int seed, int q, int years) {
        int lot = seed;
        int kicks = 0;
        int slides = 0;
        for (int year = 0; year < years; year++) {
            lot = lot * 1103515245 + 12345;
            if ((lot >> 16 & 0x7fff) % 16 < q) {
                lot = lot * 1103515245 + 12345;
                int column = (lot >> 16 & 0x7fff) % 8;
                if (high(column) > 0) {
                    fall(column);
                    kicks++;
                }
                slides += slide();
            }
        }
        return new int[] {kicks, slides};
    }

    public static void main(String[] args) {
        Random random = new Random(11);
        for (int run = 0; run < 60; run++) {
            int[] old = new int[8];
            int steep = run % 3 == 0 ? 1 : 1 + random.nextInt(9);
            StringBuilder text = new StringBuilder("person 1;person 1;");
            text.append("pot 0 1 1 1 1 1 1 end;".repeat(5)).append("steep ").append(steep).append(';');
            for (int column = 0; column < 8; column++) {
                old[column] = random.nextInt(10) * random.nextInt(2);
                text.append("heap ").append(column).append(' ').append(old[column]).append(';');
            }
            PotHill x = Check.on(text.toString());
            PlainHeapTest plain = new PlainHeapTest(old, steep);
            compare(run, x, plain, random);
            for (int k = 0; k < 16; k++) {
                step(x, plain, random);
                compare(run, x, plain, random);
            }
        }
        Check.end("PlainHeapTest");
    }

    private static void step(PotHill x, PlainHeapTest plain, Random random) {
        int column = random.nextInt(8);
        int pot = random.nextInt(5);
        boolean can;
        String text;
        if (random.nextInt(3) > 0) {
            text = "throw " + pot + " " + column + ";";
            can = plain.where(pot) < 0;
            if (can) {
                plain.columns.get(column).add(pot);
            }
        } else {
            text = "dig " + column + ";";
            can = plain.high(column) > 0;
            if (can) {
                plain.columns.get(column).remove(plain.high(column) - 1);
            }
        }
        if (can) {
            plain.slide();
        }
        Check.due(text, Check.work(x, text), can ? 1 : 0);
    }

    private static void compare(int run, PotHill x, PlainHeapTest plain, Random random) {
        int safe = 0;
        for (int column = 0; column < 8; column++) {
            String at = "run " + run + ", column " + column;
            Check.due(at + " height", x.height(column), plain.high(column));
            for (int k = 0; k < plain.high(column); k++) {
                Check.due(at + " shard " + k, x.shard(column, k), plain.columns.get(column).get(k));
            }
            PlainHeapTest more = new PlainHeapTest(plain);
            more.columns.get(column).add(TOSSED);
            int slides = more.slide();
            safe |= slides == 0 ? 1 << column : 0;
            Check.due(at + " tossed 0", x.tossed(column, 0), slides);
            Check.due(at + " tossed 1", x.tossed(column, 1), more.where(TOSSED));
        }
        Check.due("run " + run + " safe", x.safe(), safe);
        for (int pot = 0; pot < 5; pot++) {
            int column = plain.where(pot);
            int above = column < 0 ? -1 : plain.high(column) - plain.columns.get(column).indexOf(pot);
            Check.due("run " + run + " column of pot " + pot, x.pot(pot, 7), column);
            Check.due("run " + run + " baskets of pot " + pot, x.baskets(pot), above);
        }
        goats(run, x, plain, random);
    }

    private static void goats(int run, PotHill x, PlainHeapTest plain, Random random) {
        int seed = random.nextInt();
        int q = random.nextInt(17);
        int years = 1 + random.nextInt(100);
        PlainHeapTest kicked = new PlainHeapTest(plain);
        int[] answers = kicked.kicked(seed, q, years);
        int most = 0;
        for (int column = 0; column < 8; column++) {
            most = Math.max(most, kicked.high(column));
        }
        Check.due("run " + run + " kicks", x.goats(seed, q, years, 0), answers[0]);
        Check.due("run " + run + " slides", x.goats(seed, q, years, 1), answers[1]);
        Check.due("run " + run + " highest", x.goats(seed, q, years, 2), most);
        int pot = random.nextInt(5);
        boolean same = plain.where(pot) >= 0 && plain.where(pot) == kicked.where(pot);
        Check.due("run " + run + " same column", x.span(seed, 1, q, years, 2, pot), same ? 1 : 0);
    }
}
