import java.math.BigInteger;
import java.util.ArrayList;
import java.util.HashMap;
import java.util.List;
import java.util.Map;
import java.util.NoSuchElementException;
import java.util.function.ToIntFunction;
import java.util.regex.Matcher;
import java.util.regex.Pattern;

/**
 * The document once more, as plainly as the Java library allows and with nothing of the class in it: texts are cut into
 * tokens, what is "the least" or "the fewest" is found by trying. PlainTest compares the two.
 */
final class Plain {
    private static final class Fault extends RuntimeException {
        private static final long serialVersionUID = 1L;
        final int kind;
        final int at;

        Fault(int kind, int at) {
            this.kind = kind;
            this.at = at;
        }
    }

    /** A text cut into numbers, words and signs; behind the last one stands an empty one at the length. */
    private static final class Tokens {
        final List<String> texts = new ArrayList<>();
        final List<Integer> places = new ArrayList<>();
        int next = 0;

        Tokens(String text) {
            Matcher m = Pattern.compile("[0-9]+|[a-z]+|[^ ]", Pattern.DOTALL).matcher(text);
            while (m.find()) {
                texts.add(m.group());
                places.add(m.start());
            }
            texts.add("");
            places.add(text.length());
        }

        String peek() {
            return texts.get(next);
        }

        int at() {
            return places.get(next);
        }

        void fault(int kind) {
            throw new Fault(kind, at());
        }

        void take(String sign) {
            if (!peek().equals(sign)) {
                fault(1);
            }
            next++;
        }

        int number(int least, int most) {
            if (!peek().matches("[0-9]+")) {
                fault(1);
            }
            BigInteger value = new BigInteger(peek());
            if (value.compareTo(BigInteger.valueOf(least)) < 0 || value.compareTo(BigInteger.valueOf(most)) > 0) {
                fault(2);
            }
            next++;
            return value.intValue();
        }

        boolean ended() {
            return peek().isEmpty();
        }
    }

    private static final class Pot {
        int n;
        int y;
        int state = 0;
        List<Integer> told = new ArrayList<>();
        int[][] depth;
        int[] holder = new int[2];
        int[] age = new int[2];

        Pot copy() {
            Pot p = new Pot();
            p.n = n;
            p.y = y;
            p.state = state;
            p.told = told;
            p.depth = new int[][] {depth[0].clone(), depth[1].clone()};
            p.holder = holder.clone();
            p.age = age.clone();
            return p;
        }

        int apart() {
            return Plain.apart(depth[0], depth[1]);
        }

        boolean allGone() {
            return sum(depth[0]) == 0 || sum(depth[1]) == 0;
        }
    }

    /** All that is at one time. */
    private static final class World {
        int year = 0;
        List<Integer> wealth = new ArrayList<>();
        List<Pot> pots = new ArrayList<>();
        List<List<Integer>> columns = new ArrayList<>();

        World copy() {
            World w = new World();
            w.year = year;
            w.wealth = new ArrayList<>(wealth);
            for (Pot p : pots) {
                w.pots.add(p.copy());
            }
            for (List<Integer> c : columns) {
                w.columns.add(new ArrayList<>(c));
            }
            return w;
        }

        int high(int column) {
            return columns.get(column).size();
        }

        int where(int shard) {
            for (int column = 0; column < 8; column++) {
                if (columns.get(column).contains(shard)) {
                    return column;
                }
            }
            return -1;
        }

        void fallFrom(int column) {
            int to = column == 0 ? 1 : column - 1;
            if (column > 0 && column < 7 && high(column + 1) < high(column - 1)) {
                to = column + 1;
            }
            columns.get(to).add(columns.get(column).remove(high(column) - 1));
        }

        int slide(int steep) {
            for (int slid = 0;; slid++) {
                int first = -1;
                for (int column = 7; column >= 0; column--) {
                    boolean left = column > 0 && high(column) - high(column - 1) > steep;
                    boolean right = column < 7 && high(column) - high(column + 1) > steep;
                    first = left || right ? column : first;
                }
                if (first < 0) {
                    return slid;
                }
                fallFrom(first);
            }
        }

        void passYear(ToIntFunction<int[]> law) {
            for (Pot p : pots) {
                for (int half = 0; p.state == 0 && half < 2; half++) {
                    int[] was = p.depth[half].clone();
                    for (int place = 0; place < was.length; place++) {
                        p.depth[half][place] -= wear(law, was[place], place, half, year, p.age[half], year > p.y ? 1 : 0);
                    }
                    p.age[half]++;
                }
            }
            for (Pot p : pots) {
                if (p.state == 0 && p.allGone()) {
                    p.state = 2;
                }
            }
            year++;
        }

        int count(int state) {
            return (int) pots.stream().filter(p -> p.state == state).count();
        }

        boolean isDue(Pot p) {
            return p.state == 0 && year > p.y;
        }
    }

    private interface Step {
        void run();
    }

    private static int wear(ToIntFunction<int[]> law, int... row) {
        int out = law.applyAsInt(row);
        return out < 0 ? 0 : out > row[0] ? row[0] : out;
    }

    private static int sum(int[] row) {
        int s = 0;
        for (int v : row) {
            s += v;
        }
        return s;
    }

    private static int apart(int[] a, int[] b) {
        int s = 0;
        for (int k = 0; k < a.length; k++) {
            s += Math.abs(a[k] - b[k]);
        }
        return s;
    }

    private String tape = "";
    private World world = new World();
    private int chips = 2;
    private int steep = 2;
    private ToIntFunction<int[]> law = row -> 0;
    private Map<Integer, Integer> thumb = new HashMap<>();
    private int fault = -1;
    private int refused = 0;
    private List<World> works = new ArrayList<>();
    private final List<World> images = new ArrayList<>();
    private final List<List<World>> imageWorks = new ArrayList<>();
    private final int[] status = new int[2];
    private int begun;
    private int done;
    private int refusing;

    Plain() {
        for (int column = 0; column < 8; column++) {
            world.columns.add(new ArrayList<>());
        }
    }

    private void such(int number, int many) {
        if (number < 0 || number >= many) {
            status[0]++;
            throw new NoSuchElementException();
        }
    }

    private void within(int value, int least, int most) {
        if (value < least || value > most) {
            status[1]++;
            throw new IllegalArgumentException();
        }
    }

    int feed(int... words) {
        if (tape.length() + 20 > 600) {
            return -1;
        }
        StringBuilder more = new StringBuilder(tape);
        for (int word : words) {
            for (int k = 3; k >= 0; k--) {
                more.append((char) (word >> 8 * k & 255));
            }
        }
        tape = more.toString();
        return tape.length();
    }

    private Tokens text(int n, int most) {
        within(n, 0, Math.min(most, tape.length()));
        Tokens t = new Tokens(tape.substring(0, n));
        tape = "";
        fault = -1;
        return t;
    }

    private int failed(Fault f) {
        fault = f.at;
        return f.kind - 10;
    }

    int hill(int n) {
        Tokens t = text(n, 600);
        World w = new World();
        int[] signs = {2, 2};
        for (int column = 0; column < 8; column++) {
            w.columns.add(new ArrayList<>());
        }
        try {
            for (int k = 0; !t.ended(); k++) {
                clause(t, w, signs, k);
                t.take(";");
            }
        } catch (Fault f) {
            return failed(f);
        }
        world = w;
        chips = signs[0];
        steep = signs[1];
        law = row -> 0;
        thumb = new HashMap<>();
        works = new ArrayList<>();
        images.clear();
        imageWorks.clear();
        refused = 0;
        return w.pots.size();
    }

    private static void clause(Tokens t, World w, int[] signs, int before) {
        String word = t.peek();
        if (!word.matches("person|pot|heap|chips|steep")) {
            t.fault(1);
        }
        if (before >= 60 || word.equals("person") && w.wealth.size() == 8 || word.equals("pot") && w.pots.size() == 8) {
            t.fault(3);
        }
        t.next++;
        if (word.equals("person")) {
            w.wealth.add(t.number(0, 99));
        } else if (word.equals("pot")) {
            pot(t, w);
        } else if (word.equals("heap")) {
            int column = t.number(0, 7);
            int many = t.number(0, 9);
            w.columns.get(column).clear();
            for (int k = 0; k < many; k++) {
                w.columns.get(column).add(-2);
            }
        } else if (word.equals("chips")) {
            signs[0] = t.number(0, 20);
        } else {
            signs[1] = t.number(1, 9);
        }
    }

    private static void pot(Tokens t, World w) {
        Pot p = new Pot();
        p.holder[0] = t.number(0, w.wealth.size() - 1);
        int at = t.at();
        p.holder[1] = t.number(0, w.wealth.size() - 1);
        if (p.holder[0] == p.holder[1]) {
            throw new Fault(2, at);
        }
        p.n = t.number(1, 40);
        p.y = t.number(0, 60);
        while (!t.peek().equals("end")) {
            at = t.at();
            int deep = t.number(0, 9);
            if (p.told.size() == 6) {
                throw new Fault(3, at);
            }
            p.told.add(deep);
        }
        if (p.told.size() < 3) {
            t.fault(4);
        }
        t.next++;
        p.depth = new int[2][];
        p.depth[0] = p.told.stream().mapToInt(k -> k).toArray();
        p.depth[1] = p.depth[0].clone();
        w.pots.add(p);
    }

    int law(int n) {
        Tokens t = text(n, 150);
        try {
            ToIntFunction<int[]> told = sum(t, 0);
            if (!t.ended()) {
                t.fault(1);
            }
            law = told;
            return 1;
        } catch (Fault f) {
            return failed(f);
        }
    }

    private static ToIntFunction<int[]> sum(Tokens t, int open) {
        ToIntFunction<int[]> left = product(t, open);
        while (t.peek().equals("+") || t.peek().equals("-")) {
            boolean more = t.peek().equals("+");
            t.next++;
            ToIntFunction<int[]> a = left;
            ToIntFunction<int[]> b = product(t, open);
            left = more ? row -> a.applyAsInt(row) + b.applyAsInt(row) : row -> a.applyAsInt(row) - b.applyAsInt(row);
        }
        return left;
    }

    private static ToIntFunction<int[]> product(Tokens t, int open) {
        ToIntFunction<int[]> left = unit(t, open);
        while (t.peek().equals("*") || t.peek().equals("/")) {
            boolean times = t.peek().equals("*");
            t.next++;
            ToIntFunction<int[]> a = left;
            ToIntFunction<int[]> b = unit(t, open);
            left = times ? row -> a.applyAsInt(row) * b.applyAsInt(row) : row -> cut(a.applyAsInt(row), b.applyAsInt(row));
        }
        return left;
    }

    private static int cut(int a, int b) {
        return b == 0 ? 0 : (int) ((long) a / b);
    }

    private static ToIntFunction<int[]> unit(Tokens t, int open) {
        String word = t.peek();
        int value = List.of("depth", "place", "half", "year", "age", "due").indexOf(word);
        if (value >= 0) {
            t.next++;
            return row -> row[value];
        }
        if (word.matches("[0-9]+")) {
            int number = t.number(0, 999);
            return row -> number;
        }
        if (!word.matches("least|most|\\(")) {
            t.fault(1);
        }
        if (open == 6) {
            t.fault(3);
        }
        t.next++;
        if (word.equals("(")) {
            ToIntFunction<int[]> inside = sum(t, open + 1);
            t.take(")");
            return inside;
        }
        t.take("[");
        ToIntFunction<int[]> a = sum(t, open + 1);
        t.take(",");
        ToIntFunction<int[]> b = sum(t, open + 1);
        t.take("]");
        boolean least = word.equals("least");
        return row -> least ? Math.min(a.applyAsInt(row), b.applyAsInt(row)) : Math.max(a.applyAsInt(row), b.applyAsInt(row));
    }

    int work(int n) {
        within(n, 0, Math.min(150, tape.length()));
        if (works.size() == 16) {
            tape = "";
            fault = -1;
            return -20;
        }
        Tokens t = text(n, 150);
        List<Step> steps = new ArrayList<>();
        try {
            while (!t.ended()) {
                steps.add(step(t, 0));
                t.take(";");
            }
        } catch (Fault f) {
            return failed(f);
        }
        works = new ArrayList<>(works);
        works.add(world.copy());
        begun = 0;
        done = 0;
        refusing = 0;
        for (Step s : steps) {
            begin(s);
        }
        refused = refusing;
        return done;
    }

    private void begin(Step s) {
        if (begun < 200) {
            begun++;
            s.run();
        }
    }

    private void did(boolean could) {
        done += could ? 1 : 0;
        refusing += could ? 0 : 1;
    }

    private Step step(Tokens t, int open) {
        String word = t.peek();
        if (!word.matches("pay|give|throw|dig|year|again")) {
            t.fault(1);
        }
        if (word.equals("again") && open == 6) {
            t.fault(3);
        }
        t.next++;
        int lastPot = world.pots.size() - 1;
        switch (word) {
            case "pay":
                int paid = t.number(0, lastPot);
                return () -> did(pay(world.pots.get(paid)));
            case "give":
                int given = t.number(0, lastPot);
                int half = t.number(0, 1);
                int person = t.number(0, world.wealth.size() - 1);
                return () -> did(give(world.pots.get(given), half, person));
            case "throw":
                int thrown = t.number(0, lastPot);
                int onto = t.number(0, 7);
                return () -> did(toss(thrown, onto));
            case "dig":
                int from = t.number(0, 7);
                return () -> did(dig(from));
            case "year":
                return () -> did(passYear());
            default:
                return again(t, open);
        }
    }

    private Step again(Tokens t, int open) {
        int times = t.number(0, 20);
        t.take("[");
        List<Step> inside = new ArrayList<>();
        while (!t.peek().equals("]")) {
            inside.add(step(t, open + 1));
            t.take(";");
        }
        t.take("]");
        return () -> {
            for (int k = 0; k < times; k++) {
                for (Step s : inside) {
                    begin(s);
                }
            }
        };
    }

    private boolean pay(Pot p) {
        int payer = p.holder[1];
        if (p.state != 0 || p.apart() > chips || world.wealth.get(payer) < p.n) {
            return false;
        }
        world.wealth.set(payer, world.wealth.get(payer) - p.n);
        world.wealth.set(p.holder[0], world.wealth.get(p.holder[0]) + p.n);
        p.state = 1;
        return true;
    }

    private static boolean give(Pot p, int half, int person) {
        if (p.state != 0 || p.holder[half] == person) {
            return false;
        }
        p.holder[half] = person;
        p.age[half] = 0;
        return true;
    }

    private boolean toss(int pot, int column) {
        if (world.where(pot) >= 0) {
            return false;
        }
        world.columns.get(column).add(pot);
        world.slide(steep);
        return true;
    }

    private boolean dig(int column) {
        if (world.high(column) == 0) {
            return false;
        }
        world.columns.get(column).remove(world.high(column) - 1);
        world.slide(steep);
        return true;
    }

    private boolean passYear() {
        if (world.year >= 200) {
            return false;
        }
        world.passYear(law);
        return true;
    }

    int thumb(int n) {
        Tokens t = text(n, 60);
        Map<Integer, Integer> lines = new HashMap<>();
        try {
            while (!t.ended()) {
                int at = t.at();
                int place = t.number(0, 5);
                if (lines.containsKey(place)) {
                    throw new Fault(2, at);
                }
                lines.put(place, t.number(0, 9));
                t.take(";");
            }
        } catch (Fault f) {
            return failed(f);
        }
        thumb = lines;
        return lines.size();
    }

    int fault() {
        return fault;
    }

    int undo() {
        if (works.isEmpty()) {
            return -1;
        }
        world = works.get(works.size() - 1).copy();
        works = new ArrayList<>(works.subList(0, works.size() - 1));
        refused = 0;
        return works.size();
    }

    int told(int what) {
        within(what, 0, 9);
        int[] all = {world.wealth.size(), world.pots.size(), world.year, world.count(0), world.count(1), world.count(2),
            (int) world.pots.stream().filter(world::isDue).count(),
            world.columns.stream().mapToInt(List::size).sum(), thumb.size(), refused};
        return all[what];
    }

    int has(int person) {
        such(person, world.wealth.size());
        return world.wealth.get(person);
    }

    int pot(int pot, int what) {
        such(pot, world.pots.size());
        within(what, 0, 7);
        Pot p = world.pots.get(pot);
        int[] all = {p.n, p.y, p.told.size(), p.state, p.holder[0], p.holder[1], p.apart(), world.where(pot)};
        return all[what];
    }

    int depth(int pot, int half, int place) {
        such(pot, world.pots.size());
        such(half, 2);
        such(place, world.pots.get(pot).told.size());
        return world.pots.get(pot).depth[half][place];
    }

    int would(int depth, int place, int half, int year, int age, int due) {
        within(depth, 0, 9);
        within(place, 0, 5);
        within(half, 0, 1);
        within(year, 0, 200);
        within(age, 0, 200);
        within(due, 0, 1);
        return wear(law, depth, place, half, year, age, due);
    }

    int meets(int pot) {
        such(pot, world.pots.size());
        return world.pots.get(pot).apart() <= chips ? 1 : 0;
    }

    int lasts(int pot) {
        such(pot, world.pots.size());
        World w = world.copy();
        for (int years = 0; years <= 200; years++) {
            Pot p = w.pots.get(pot);
            if (p.state == 2 || p.apart() > chips) {
                return years;
            }
            w.passYear(law);
        }
        return -1;
    }

    private int owes(int one, int other) {
        return one == other ? 0 : world.pots.stream()
            .filter(p -> p.state == 0 && p.holder[1] == one && p.holder[0] == other).mapToInt(p -> p.n).sum();
    }

    int owed(int person, int other) {
        such(person, world.wealth.size());
        such(other, world.wealth.size());
        return owes(person, other);
    }

    int height(int column) {
        within(column, 0, 7);
        return world.high(column);
    }

    int shard(int column, int k) {
        within(column, 0, 7);
        within(k, 0, Integer.MAX_VALUE);
        return k < world.high(column) ? world.columns.get(column).get(k) : -1;
    }

    private int[] thrownOn(int column) {
        World w = world.copy();
        w.columns.get(column).add(99);
        int slid = w.slide(steep);
        return new int[] {slid, w.where(99)};
    }

    int safe() {
        int bits = 0;
        for (int column = 0; column < 8; column++) {
            bits += thrownOn(column)[0] == 0 ? 1 << column : 0;
        }
        return bits;
    }

    int tossed(int column, int what) {
        within(column, 0, 7);
        within(what, 0, 1);
        return thrownOn(column)[what];
    }

    int baskets(int pot) {
        such(pot, world.pots.size());
        int column = world.where(pot);
        return column < 0 ? -1 : world.high(column) - world.columns.get(column).indexOf(pot);
    }

    /** The least sum that is left to dig, if the columns of these bits are dug already; found once for each. */
    private long restSum(int dug, Map<Integer, Long> known) {
        if (known.containsKey(dug)) {
            return known.get(dug);
        }
        long best = Long.MAX_VALUE;
        for (int column = 0; column < 8; column++) {
            if ((dug >> column & 1) == 0 && world.high(column) > 0) {
                best = Math.min(best, sumOf(dug, column) + restSum(dug | 1 << column, known));
            }
        }
        known.put(dug, best == Long.MAX_VALUE ? 0 : best);
        return known.get(dug);
    }

    private long sumOf(int dug, int column) {
        int before = 0;
        for (int other = 0; other < 8; other++) {
            before += (dug >> other & 1) == 1 ? world.high(other) : 0;
        }
        long sum = 0;
        for (int k = world.high(column); k >= 1; k--) {
            before++;
            sum += (long) k * before;
        }
        return sum;
    }

    int order() {
        Map<Integer, Long> known = new HashMap<>();
        int dug = 0;
        int digits = 0;
        for (int column = 0; column < 8; column++) {
            boolean left = (dug >> column & 1) == 0 && world.high(column) > 0;
            if (left && sumOf(dug, column) + restSum(dug | 1 << column, known) == restSum(dug, known)) {
                digits = digits * 10 + column + 1;
                dug |= 1 << column;
                column = -1;
            }
        }
        return digits;
    }

    int mean(int part) {
        within(part, 0, 1);
        BigInteger above = BigInteger.valueOf(restSum(0, new HashMap<>()));
        BigInteger below = BigInteger.ZERO;
        for (List<Integer> column : world.columns) {
            for (int k = 1; k <= column.size(); k++) {
                below = below.add(BigInteger.valueOf(k));
            }
        }
        if (below.signum() == 0) {
            return part;
        }
        return (part == 0 ? above : below).divide(above.gcd(below)).intValue();
    }

    private int[] half(int number) {
        return world.pots.get(number / 2).depth[number % 2];
    }

    private static boolean isOf(int[] depths, Map<Integer, Integer> lines) {
        return lines.entrySet().stream().allMatch(e -> e.getKey() < depths.length && depths[e.getKey()] == e.getValue());
    }

    private List<Integer> fitting() {
        List<Integer> all = new ArrayList<>();
        for (int number = 0; number < 2 * world.pots.size(); number++) {
            if (world.pots.get(number / 2).state == 0 && isOf(half(number), thumb)) {
                all.add(number);
            }
        }
        return all;
    }

    int fits() {
        return fitting().stream().mapToInt(number -> 1 << number).sum();
    }

    int feel(int what) {
        within(what, 0, 1);
        int[] best = {-1, -1};
        for (int place = 5; place >= 0; place--) {
            if (!thumb.containsKey(place)) {
                int worst = 0;
                for (int felt = -1; felt <= 9; felt++) {
                    int left = 0;
                    for (int number : fitting()) {
                        int[] depths = half(number);
                        left += (place < depths.length ? depths[place] : -1) == felt ? 1 : 0;
                    }
                    worst = Math.max(worst, left);
                }
                if (best[0] < 0 || worst <= best[1]) {
                    best = new int[] {place, worst};
                }
            }
        }
        return best[what];
    }

    private int chipsFor(int a, int b) {
        if (half(a).length != half(b).length) {
            return -1;
        }
        // The fewest chips for each number of what is left apart, place by place.
        int[] fewest = new int[60];
        java.util.Arrays.fill(fewest, 999);
        fewest[0] = 0;
        for (int place = 0; place < half(a).length; place++) {
            int[] next = new int[60];
            java.util.Arrays.fill(next, 999);
            for (int off = 0; off <= half(a)[place]; off++) {
                int more = Math.abs(half(a)[place] - off - half(b)[place]);
                for (int k = 0; k + more < 60; k++) {
                    next[k + more] = Math.min(next[k + more], fewest[k] + off);
                }
            }
            fewest = next;
        }
        int best = 999;
        for (int k = 0; k <= chips; k++) {
            best = Math.min(best, fewest[k]);
        }
        return best == 999 ? -1 : best;
    }

    int forge(int half, int other) {
        such(half, 2 * world.pots.size());
        such(other, 2 * world.pots.size());
        return chipsFor(half, other);
    }

    int easiest(int half) {
        such(half, 2 * world.pots.size());
        for (int many = 0; many < 60; many++) {
            for (int other = 0; other < 2 * world.pots.size(); other++) {
                if (other != half && world.pots.get(other / 2).state == 0 && chipsFor(half, other) == many) {
                    return other;
                }
            }
        }
        return -1;
    }

    int tell() {
        for (int m = 1; m <= 6; m++) {
            boolean all = true;
            for (Pot p : world.pots) {
                for (Pot q : world.pots) {
                    all &= p == q || firstApart(p.told, q.told, m) > 2 * chips;
                }
            }
            if (all) {
                return m;
            }
        }
        return -1;
    }

    private static int firstApart(List<Integer> a, List<Integer> b, int m) {
        int s = 0;
        for (int k = 0; k < m; k++) {
            s += Math.abs((k < a.size() ? a.get(k) : 0) - (k < b.size() ? b.get(k) : 0));
        }
        return s;
    }

    int net(int person) {
        such(person, world.wealth.size());
        int s = 0;
        for (int other = 0; other < world.wealth.size(); other++) {
            s += owes(other, person) - owes(person, other);
        }
        return s;
    }

    int struck() {
        int s = 0;
        for (int person = 0; person < world.wealth.size(); person++) {
            s += Math.abs(net(person));
        }
        return s / 2;
    }

    private boolean goesOn(List<Integer> row, int many) {
        int last = row.get(row.size() - 1);
        if (row.size() == many) {
            return owes(last, row.get(0)) > 0;
        }
        for (int person = row.get(0); person < world.wealth.size(); person++) {
            if (!row.contains(person) && owes(last, person) > 0) {
                row.add(person);
                if (goesOn(row, many)) {
                    return true;
                }
                row.remove(row.size() - 1);
            }
        }
        return false;
    }

    int ring(int what) {
        within(what, 0, 1);
        for (int many = 2; many <= world.wealth.size(); many++) {
            for (int person = 0; person < world.wealth.size(); person++) {
                List<Integer> row = new ArrayList<>(List.of(person));
                if (goesOn(row, many)) {
                    return what == 0 ? many : row.stream().reduce(0, (digits, p) -> 10 * digits + p + 1);
                }
            }
        }
        return -1;
    }

    int gets(int pot, int n) {
        such(pot, world.pots.size());
        within(n, 0, 400);
        for (int bound = 400; bound >= 0; bound--) {
            int given = 0;
            for (Pot p : world.pots) {
                given += world.isDue(p) ? Math.min(p.n, bound) : 0;
            }
            if (given <= n) {
                return world.isDue(world.pots.get(pot)) ? Math.min(world.pots.get(pot).n, bound) : 0;
            }
        }
        return 0;
    }

    int holds(int person, int what) {
        such(person, world.wealth.size());
        within(what, 0, 1);
        int bits = 0;
        for (int k = 0; k < world.pots.size(); k++) {
            Pot p = world.pots.get(k);
            boolean zero = p.state == 0 && p.holder[0] == person;
            boolean one = p.state == 0 && p.holder[1] == person;
            if (what == 0) {
                bits += (zero ? 1 << 2 * k : 0) + (one ? 2 << 2 * k : 0);
            } else {
                bits += zero && one ? 1 << k : 0;
            }
        }
        return bits;
    }

    int deep(int half, int what) {
        such(half, 2 * world.pots.size());
        within(what, 0, 1);
        int[] depths = half(half);
        int[] sorted = depths.clone();
        java.util.Arrays.sort(sorted);
        int wanted = what == 0 ? sorted[0] : sorted[sorted.length - 1];
        for (int place = 0;; place++) {
            if (depths[place] == wanted) {
                return place;
            }
        }
    }

    int ahead(int years, int what) {
        within(years, 0, 100);
        within(what, 0, 2);
        World w = world.copy();
        for (int k = 0; k < years; k++) {
            w.passYear(law);
        }
        int[] all = {w.count(0), w.count(2), (int) w.pots.stream().filter(p -> p.state == 0 && p.apart() <= chips).count()};
        return all[what];
    }

    private static int draw(int[] seed, int by) {
        seed[0] = (int) ((seed[0] * 1103515245L + 12345L) & 0xffffffffL);
        return (seed[0] >> 16 & 0x7fff) % by;
    }

    /** Kicks, slides, and the world as it is then. */
    private int[] kicked(World w, int seed, int q, int years) {
        int[] lot = {seed};
        int kicks = 0;
        int slid = 0;
        for (int k = 0; k < years; k++) {
            if (draw(lot, 16) < q) {
                int column = draw(lot, 8);
                if (w.high(column) > 0) {
                    w.fallFrom(column);
                    kicks++;
                }
                slid += w.slide(steep);
            }
            w.passYear(law);
        }
        return new int[] {kicks, slid};
    }

    int goats(int seed, int q, int years, int what) {
        within(q, 0, 16);
        within(years, 1, 100);
        within(what, 0, 3);
        World w = world.copy();
        int[] two = kicked(w, seed, q, years);
        int[] all = {two[0], two[1], w.columns.stream().mapToInt(List::size).max().orElse(0), w.count(2)};
        return all[what];
    }

    int span(int seed, int many, int q, int years, int what, int pot) {
        within(many, 1, 20);
        within(q, 0, 16);
        within(years, 1, 100);
        within(what, 0, 2);
        within(pot, 0, world.pots.size() - 1);
        List<Integer> slid = new ArrayList<>();
        int same = 0;
        for (int k = 0; k < many; k++) {
            World w = world.copy();
            slid.add(kicked(w, seed + k, q, years)[1]);
            same += world.where(pot) >= 0 && w.where(pot) == world.where(pot) ? 1 : 0;
        }
        slid.sort(null);
        int[] all = {slid.get(0), slid.get(many - 1), same};
        return all[what];
    }

    int image() {
        if (images.size() == 3) {
            return -1;
        }
        images.add(world.copy());
        imageWorks.add(works);
        return images.size();
    }

    int restore() {
        if (images.isEmpty()) {
            return -1;
        }
        world = images.remove(images.size() - 1);
        works = imageWorks.remove(imageWorks.size() - 1);
        refused = 0;
        return images.size();
    }

    int status(int what) {
        return what == 0 || what == 1 ? status[what] : -1;
    }

    int count(int what) {
        return what == 0 ? images.size() : what == 1 ? tape.length() : what == 2 ? works.size() : -1;
    }
}
