import java.util.Arrays;
import java.util.NoSuchElementException;

/**
 * The hill of pots: contracts told as a text, the years that go by over them, and what may be asked of them.
 * The words in the names (pot, half, place, column ..) are those of the document's terms.
 */
public final class PotHill {
    public static final int NONE = -1;

    private static final int PEOPLE_AT_MOST = 8;
    private static final int POTS_AT_MOST = 8;
    private static final int HALVES_AT_MOST = 16;
    private static final int PLACES_AT_MOST = 6;
    private static final int COLUMNS = 8;
    private static final int HILL_BYTES = 600;
    private static final int LAW_BYTES = 150;
    private static final int WORK_BYTES = 150;
    private static final int THUMB_BYTES = 60;
    private static final int WORKS_AT_MOST = 16;
    private static final int IMAGES_AT_MOST = 3;
    private static final int YEARS_AT_MOST = 200;
    private static final int STEPS_AT_MOST = 200;
    private static final int OPEN_AT_MOST = 6;
    private static final int DEPTH_AT_MOST = 9;
    private static final int INT_AT_MOST = 2147483647;

    private static final int OPEN = 0;
    private static final int PAID = 1;
    private static final int VOID = 2;

    private static final int OLD_SHARD = -2;
    private static final int TOSSED_SHARD = -3;

    private static final int CANT_STAND = 1;
    private static final int NO_SUCH_NUMBER = 2;
    private static final int TOO_MANY = 3;
    private static final int TOO_FEW_PLACES = 4;

    private final Tape tape;
    private final Ground now;
    private final Ground asked;
    private final Steps steps;
    private final Ring rings;
    private final Goats herd;
    private final Saved[] images;
    private Plan plan;
    private Plan sparePlan;
    private Law ruling;
    private Law spareLaw;
    private Touch touch;
    private Touch spareTouch;
    private Saved past;
    private int imageCount;
    private int faultPlace;
    private int refusedSteps;
    private int callsWithoutSuch;
    private int callsWithWrong;

    public PotHill() {
        tape = new Tape();
        now = new Ground();
        asked = new Ground();
        steps = new Steps();
        rings = new Ring();
        herd = new Goats();
        images = new Saved[IMAGES_AT_MOST];
        plan = new Plan();
        sparePlan = new Plan();
        ruling = new Law();
        spareLaw = new Law();
        touch = new Touch();
        spareTouch = new Touch();
        past = null;
        imageCount = 0;
        faultPlace = NONE;
        refusedSteps = 0;
        callsWithoutSuch = 0;
        callsWithWrong = 0;
    }

    // ---- texts

    public int feed(int a, int b, int c, int d, int e) {
        if (tape.size + 20 > HILL_BYTES) {
            return NONE;
        }
        tape.put(a);
        tape.put(b);
        tape.put(c);
        tape.put(d);
        tape.put(e);
        return tape.size;
    }

    public int hill(int n) throws IllegalArgumentException {
        needWithin(n, 0, tape.size);
        tape.begin(n);
        sparePlan.readHill(tape);
        faultPlace = tape.faultAt;
        if (!tape.sound()) {
            return tape.fault - 10;
        }
        Plan told = sparePlan;
        sparePlan = plan;
        plan = told;
        startAnew();
        return plan.pots;
    }

    public int law(int n) throws IllegalArgumentException {
        needWithin(n, 0, Math.min(LAW_BYTES, tape.size));
        tape.begin(n);
        spareLaw.readLaw(tape);
        faultPlace = tape.faultAt;
        if (!tape.sound()) {
            return tape.fault - 10;
        }
        Law told = spareLaw;
        spareLaw = ruling;
        ruling = told;
        return 1;
    }

    public int work(int n) throws IllegalArgumentException {
        needWithin(n, 0, Math.min(WORK_BYTES, tape.size));
        if (worksLeft() >= WORKS_AT_MOST) {
            tape.begin(0);
            faultPlace = NONE;
            return -20;
        }
        tape.begin(n);
        steps.readWork(tape, plan);
        faultPlace = tape.faultAt;
        if (!tape.sound()) {
            return tape.fault - 10;
        }
        past = new Saved(now, past, worksLeft() + 1);
        steps.begun = 0;
        steps.done = 0;
        steps.refused = 0;
        runSteps(0, steps.size, 0);
        refusedSteps = steps.refused;
        return steps.done;
    }

    public int thumb(int n) throws IllegalArgumentException {
        needWithin(n, 0, Math.min(THUMB_BYTES, tape.size));
        tape.begin(n);
        spareTouch.readThumb(tape);
        faultPlace = tape.faultAt;
        if (!tape.sound()) {
            return tape.fault - 10;
        }
        Touch told = spareTouch;
        spareTouch = touch;
        touch = told;
        return touch.lines;
    }

    public int fault() {
        return faultPlace;
    }

    public int undo() {
        if (past == null) {
            return -1;
        }
        now.copyFrom(past.ground);
        past = past.earlier;
        refusedSteps = 0;
        return worksLeft();
    }

    // ---- what is

    public int told(int what) throws IllegalArgumentException {
        needWithin(what, 0, 9);
        switch (what) {
            case 0:
                return plan.people;
            case 1:
                return plan.pots;
            case 2:
                return now.year;
            case 3:
                return now.countOf(plan, OPEN);
            case 4:
                return now.countOf(plan, PAID);
            case 5:
                return now.countOf(plan, VOID);
            case 6:
                return now.countDue(plan);
            case 7:
                return now.heap.shardsInAll();
            case 8:
                return touch.lines;
            default:
                return refusedSteps;
        }
    }

    public int has(int person) throws NoSuchElementException {
        needSuch(person, plan.people);
        return now.wealth[person];
    }

    public int pot(int pot, int what) throws NoSuchElementException, IllegalArgumentException {
        needSuch(pot, plan.pots);
        needWithin(what, 0, 7);
        switch (what) {
            case 0:
                return plan.due[pot];
            case 1:
                return plan.dueYear[pot];
            case 2:
                return plan.places[pot];
            case 3:
                return now.state[pot];
            case 4:
                return now.holder[2 * pot];
            case 5:
                return now.holder[2 * pot + 1];
            case 6:
                return now.apart(plan.places[pot], 2 * pot, 2 * pot + 1);
            default:
                return now.heap.columnOf(pot);
        }
    }

    public int depth(int pot, int half, int place) throws NoSuchElementException {
        needSuch(pot, plan.pots);
        needSuch(half, 2);
        needSuch(place, plan.places[pot]);
        return now.depths[(2 * pot + half) * PLACES_AT_MOST + place];
    }

    public int would(int depth, int place, int half, int year, int age, int due) throws IllegalArgumentException {
        needWithin(depth, 0, DEPTH_AT_MOST);
        needWithin(place, 0, PLACES_AT_MOST - 1);
        needWithin(half, 0, 1);
        needWithin(year, 0, YEARS_AT_MOST);
        needWithin(age, 0, YEARS_AT_MOST);
        needWithin(due, 0, 1);
        return ruling.wears(depth, place, half, year, age, due);
    }

    public boolean meets(int pot) throws NoSuchElementException {
        needSuch(pot, plan.pots);
        return now.halvesMeet(plan, pot);
    }

    public int lasts(int pot) throws NoSuchElementException {
        needSuch(pot, plan.pots);
        asked.copyFrom(now);
        for (int years = 0; years <= YEARS_AT_MOST; years++) {
            if (asked.state[pot] == VOID || !asked.halvesMeet(plan, pot)) {
                return years;
            }
            // What is PAID wears no more: the answer can't change.
            if (asked.state[pot] != OPEN) {
                return NONE;
            }
            asked.wearPot(plan, ruling, pot);
            asked.year++;
        }
        return NONE;
    }

    public int owed(int person, int other) throws NoSuchElementException {
        needSuch(person, plan.people);
        needSuch(other, plan.people);
        return now.owedBy(plan, person, other);
    }

    // ---- the heap

    public int height(int column) throws IllegalArgumentException {
        needWithin(column, 0, COLUMNS - 1);
        return now.heap.heights[column];
    }

    public int shard(int column, int k) throws IllegalArgumentException {
        needWithin(column, 0, COLUMNS - 1);
        needWithin(k, 0, INT_AT_MOST);
        return now.heap.shardAt(column, k);
    }

    public int safe() {
        int bits = 0;
        for (int column = 0; column < COLUMNS; column++) {
            asked.heap.copyFrom(now.heap);
            asked.heap.put(column, TOSSED_SHARD);
            if (asked.heap.firstToSlide(plan.steep) == NONE) {
                bits |= 1 << column;
            }
        }
        return bits;
    }

    public int tossed(int column, int what) throws IllegalArgumentException {
        needWithin(column, 0, COLUMNS - 1);
        needWithin(what, 0, 1);
        asked.heap.copyFrom(now.heap);
        asked.heap.put(column, TOSSED_SHARD);
        int slides = asked.heap.settle(plan.steep);
        return what == 0 ? slides : asked.heap.columnOf(TOSSED_SHARD);
    }

    public int baskets(int pot) throws NoSuchElementException {
        needSuch(pot, plan.pots);
        return now.heap.downTo(pot);
    }

    public int order() {
        int digits = 0;
        int dug = 0;
        for (int k = 0; k < COLUMNS; k++) {
            int column = now.heap.highestBut(dug);
            if (column == NONE) {
                break;
            }
            digits = digits * 10 + column + 1;
            dug |= 1 << column;
        }
        return digits;
    }

    public int mean(int part) throws IllegalArgumentException {
        needWithin(part, 0, 1);
        int above = now.heap.weighedDigging();
        int below = now.heap.weightInAll();
        int common = commonDivisor(above, below);
        if (below == 0 || common == 0) {
            return part;
        }
        return (part == 0 ? above : below) / common;
    }

    // ---- halves that a thumb feels, and forged ones

    public int fits() {
        return touch.fitting(plan, now);
    }

    public int feel(int what) throws IllegalArgumentException {
        needWithin(what, 0, 1);
        int best = NONE;
        int fewest = NONE;
        for (int place = 0; place < PLACES_AT_MOST; place++) {
            if (touch.felt[place] == NONE) {
                int left = touch.leftAtWorst(plan, now, place);
                if (best == NONE || left < fewest) {
                    best = place;
                    fewest = left;
                }
            }
        }
        return what == 0 ? best : fewest;
    }

    public int forge(int half, int other) throws NoSuchElementException {
        needSuch(half, 2 * plan.pots);
        needSuch(other, 2 * plan.pots);
        return now.chipsFor(plan, half, other);
    }

    public int easiest(int half) throws NoSuchElementException {
        needSuch(half, 2 * plan.pots);
        int best = NONE;
        int fewest = NONE;
        for (int other = 0; other < 2 * plan.pots; other++) {
            if (other != half && now.state[other / 2] == OPEN) {
                int chips = now.chipsFor(plan, half, other);
                if (chips != NONE && (best == NONE || chips < fewest)) {
                    best = other;
                    fewest = chips;
                }
            }
        }
        return best;
    }

    public int tell() {
        for (int m = 1; m <= PLACES_AT_MOST; m++) {
            if (plan.toldApartBy(m)) {
                return m;
            }
        }
        return NONE;
    }

    // ---- debts

    public int net(int person) throws NoSuchElementException {
        needSuch(person, plan.people);
        return now.netOf(plan, person);
    }

    public int struck() {
        int sum = 0;
        for (int person = 0; person < plan.people; person++) {
            sum += Math.max(0, now.netOf(plan, person));
        }
        return sum;
    }

    public int ring(int what) throws IllegalArgumentException {
        needWithin(what, 0, 1);
        rings.look(plan, now);
        if (rings.size == 0) {
            return NONE;
        }
        return what == 0 ? rings.size : rings.digits();
    }

    public int gets(int pot, int n) throws NoSuchElementException, IllegalArgumentException {
        needSuch(pot, plan.pots);
        needWithin(n, 0, 400);
        if (!now.isDue(plan, pot)) {
            return 0;
        }
        return Math.min(plan.due[pot], now.levelFor(plan, n));
    }

    public int holds(int person, int what) throws NoSuchElementException, IllegalArgumentException {
        needSuch(person, plan.people);
        needWithin(what, 0, 1);
        return what == 0 ? now.halvesOf(plan, person) : now.bothHalvesOf(plan, person);
    }

    public int deep(int half, int what) throws NoSuchElementException, IllegalArgumentException {
        needSuch(half, 2 * plan.pots);
        needWithin(what, 0, 1);
        int best = 0;
        for (int place = 1; place < plan.places[half / 2]; place++) {
            int more = now.depths[half * PLACES_AT_MOST + place] - now.depths[half * PLACES_AT_MOST + best];
            if (what == 0 ? more < 0 : more > 0) {
                best = place;
            }
        }
        return best;
    }

    // ---- years to come

    public int ahead(int years, int what) throws IllegalArgumentException {
        needWithin(years, 0, 100);
        needWithin(what, 0, 2);
        letYearsGo(years);
        if (what == 2) {
            return asked.countMeeting(plan);
        }
        return asked.countOf(plan, what == 0 ? OPEN : VOID);
    }

    public int goats(int seed, int q, int years, int what) throws IllegalArgumentException {
        needWithin(q, 0, 16);
        needWithin(years, 1, 100);
        needWithin(what, 0, 3);
        // Goats kick shards, never halves: what becomes VOID is the same without them.
        if (what == 3) {
            letYearsGo(years);
            return asked.countOf(plan, VOID);
        }
        herd.kickAbout(now.heap, plan.steep, seed, q, years);
        if (what == 0) {
            return herd.kicks;
        }
        return what == 1 ? herd.slides : herd.heap.heightAtMost();
    }

    public int span(int seed, int many, int q, int years, int what, int pot) throws IllegalArgumentException {
        needWithin(many, 1, 20);
        needWithin(q, 0, 16);
        needWithin(years, 1, 100);
        needWithin(what, 0, 2);
        needWithin(pot, 0, plan.pots - 1);
        int column = now.heap.columnOf(pot);
        int fewest = INT_AT_MOST;
        int most = 0;
        int same = 0;
        for (int k = 0; k < many; k++) {
            herd.kickAbout(now.heap, plan.steep, seed + k, q, years);
            fewest = Math.min(fewest, herd.slides);
            most = Math.max(most, herd.slides);
            if (column != NONE && herd.heap.columnOf(pot) == column) {
                same++;
            }
        }
        if (what == 2) {
            return same;
        }
        return what == 0 ? fewest : most;
    }

    // ---- images, counts

    public int image() {
        if (imageCount < 0 || imageCount >= images.length) {
            return -1;
        }
        images[imageCount] = new Saved(now, past, worksLeft());
        imageCount++;
        return imageCount;
    }

    public int restore() {
        if (imageCount <= 0 || imageCount > images.length) {
            return -1;
        }
        Saved image = images[imageCount - 1];
        if (image == null) {
            return -1;
        }
        now.copyFrom(image.ground);
        past = image.earlier;
        imageCount--;
        images[imageCount] = null;
        refusedSteps = 0;
        return imageCount;
    }

    public int status(int what) {
        if (what == 0) {
            return callsWithoutSuch;
        }
        return what == 1 ? callsWithWrong : NONE;
    }

    public int count(int what) {
        switch (what) {
            case 0:
                return imageCount;
            case 1:
                return tape.size;
            case 2:
                return worksLeft();
            default:
                return NONE;
        }
    }

    // ---- refusals

    private void needSuch(int number, int many) {
        if (number < 0 || number >= many) {
            callsWithoutSuch++;
            throw new NoSuchElementException("no such person, pot, half or place");
        }
    }

    private void needWithin(int value, int least, int most) {
        if (value < least || value > most) {
            callsWithWrong++;
            throw new IllegalArgumentException("none such");
        }
    }

    // ---- the doing

    private int worksLeft() {
        return past == null ? 0 : past.works;
    }

    private void startAnew() {
        now.begin(plan);
        ruling.forget();
        touch.forget();
        past = null;
        for (int k = 0; k < images.length; k++) {
            images[k] = null;
        }
        imageCount = 0;
        refusedSteps = 0;
    }

    private void letYearsGo(int years) {
        asked.copyFrom(now);
        // Where nothing is OPEN any more, further years change no pot.
        for (int k = 0; k < years && asked.countOf(plan, OPEN) > 0; k++) {
            asked.passYear(plan, ruling);
        }
    }

    private void runSteps(int from, int to, int level) {
        int i = from;
        for (int k = 0; k < WORK_BYTES && i < to && steps.begun < STEPS_AT_MOST; k++) {
            steps.begun++;
            if (steps.kind[i] == Steps.AGAIN) {
                for (int turn = 0; turn < steps.first[i] && level < OPEN_AT_MOST; turn++) {
                    runSteps(i + 1, steps.end[i], level + 1);
                }
            } else if (doStep(i)) {
                steps.done++;
            } else {
                steps.refused++;
            }
            i = steps.end[i];
        }
    }

    private boolean doStep(int i) {
        int first = steps.first[i];
        switch (steps.kind[i]) {
            case Steps.PAY:
                return now.payPot(plan, first);
            case Steps.GIVE:
                return now.giveHalf(first, steps.second[i], steps.third[i]);
            case Steps.THROW:
                return now.throwShard(first, steps.second[i], plan.steep);
            case Steps.DIG:
                return now.digColumn(first, plan.steep);
            default:
                if (now.year >= YEARS_AT_MOST) {
                    return false;
                }
                now.passYear(plan, ruling);
                return true;
        }
    }

    private static int commonDivisor(int a, int b) {
        int x = a;
        int y = b;
        for (int k = 0; k < 1000 && y != 0; k++) {
            int rest = x % y;
            x = y;
            y = rest;
        }
        return x;
    }

    /** The bytes that came, and a text of them that is being read, up to its first fault. */
    private static final class Tape {
        static final int NUMBER_AT_MOST = 100000;

        final int[] bytes;
        int size;
        int length;
        int at;
        int start;
        int fault;
        int faultAt;

        Tape() {
            bytes = new int[HILL_BYTES];
            size = 0;
            length = 0;
            at = 0;
            start = 0;
            fault = 0;
            faultAt = NONE;
        }

        void put(int number) {
            for (int shift = 24; shift >= 0 && size < bytes.length; shift -= 8) {
                bytes[size] = (number >>> shift) & 255;
                size++;
            }
        }

        void begin(int n) {
            length = Math.max(0, Math.min(n, bytes.length));
            size = 0;
            at = 0;
            start = 0;
            fault = 0;
            faultAt = NONE;
        }

        boolean sound() {
            return fault == 0;
        }

        void blame(int kind, int where) {
            // The first fault from the left is found first; what is blamed behind it does not count.
            if (fault == 0) {
                fault = kind;
                faultAt = where;
            }
        }

        int look() {
            while (at < length && bytes[at] == ' ') {
                at++;
            }
            return at < length ? bytes[at] : NONE;
        }

        static boolean isDigit(int sign) {
            return sign >= '0' && sign <= '9';
        }

        static boolean isLetter(int sign) {
            return sign >= 'a' && sign <= 'z';
        }

        /** Behind a fault nothing more is taken, and the answer is of no use. */
        int number(int least, int most) {
            if (!sound()) {
                return NONE;
            }
            if (!isDigit(look())) {
                blame(CANT_STAND, at);
                return NONE;
            }
            start = at;
            int value = 0;
            while (at < length && isDigit(bytes[at])) {
                value = Math.min(NUMBER_AT_MOST, value * 10 + bytes[at] - '0');
                at++;
            }
            if (value < least || value > most) {
                blame(NO_SUCH_NUMBER, start);
            }
            return value;
        }

        /** The letters that stand there become the word; where there are none, it is empty. */
        void takeWord() {
            look();
            start = at;
            while (sound() && at < length && isLetter(bytes[at])) {
                at++;
            }
        }

        boolean isWord(String word) {
            if (at - start != word.length()) {
                return false;
            }
            for (int k = 0; k < word.length(); k++) {
                if (bytes[start + k] != word.charAt(k)) {
                    return false;
                }
            }
            return true;
        }

        boolean takeSign(int sign) {
            if (!sound() || look() != sign) {
                return false;
            }
            at++;
            return true;
        }

        void expect(int sign) {
            if (look() == sign && sound()) {
                at++;
            } else {
                blame(CANT_STAND, at);
            }
        }
    }

    /** What a hill's text tells; nothing in it changes but by another text. */
    private static final class Plan {
        static final int CLAUSES_AT_MOST = 60;
        static final int NO_CLAUSE = 0;
        static final int PERSON = 1;
        static final int POT = 2;
        static final int HEAP = 3;
        static final int CHIPS = 4;
        static final int STEEP = 5;

        int people;
        int pots;
        int chips;
        int steep;
        final int[] wealth;
        final int[] creditor;
        final int[] debtor;
        final int[] due;
        final int[] dueYear;
        final int[] places;
        final int[] depths;
        final int[] oldShards;

        Plan() {
            people = 0;
            pots = 0;
            chips = 2;
            steep = 2;
            wealth = new int[PEOPLE_AT_MOST];
            creditor = new int[POTS_AT_MOST];
            debtor = new int[POTS_AT_MOST];
            due = new int[POTS_AT_MOST];
            dueYear = new int[POTS_AT_MOST];
            places = new int[POTS_AT_MOST];
            depths = new int[POTS_AT_MOST * PLACES_AT_MOST];
            oldShards = new int[COLUMNS];
        }

        void readHill(Tape tape) {
            people = 0;
            pots = 0;
            chips = 2;
            steep = 2;
            Arrays.fill(depths, 0);
            Arrays.fill(oldShards, 0);
            for (int clauses = 0; clauses <= CLAUSES_AT_MOST && tape.sound() && tape.look() != NONE; clauses++) {
                readClause(tape, clauses);
                tape.expect(';');
            }
        }

        private void readClause(Tape tape, int clauses) {
            tape.takeWord();
            int kind = clauseKind(tape);
            if (kind == NO_CLAUSE) {
                tape.blame(CANT_STAND, tape.start);
            } else if (isTooMany(kind, clauses)) {
                tape.blame(TOO_MANY, tape.start);
            } else {
                readRest(tape, kind);
            }
        }

        private int clauseKind(Tape tape) {
            if (tape.isWord("person")) {
                return PERSON;
            }
            if (tape.isWord("pot")) {
                return POT;
            }
            if (tape.isWord("heap")) {
                return HEAP;
            }
            if (tape.isWord("chips")) {
                return CHIPS;
            }
            return tape.isWord("steep") ? STEEP : NO_CLAUSE;
        }

        private boolean isTooMany(int kind, int clauses) {
            return clauses >= CLAUSES_AT_MOST
                || (kind == PERSON && people >= PEOPLE_AT_MOST)
                || (kind == POT && pots >= POTS_AT_MOST);
        }

        private void readRest(Tape tape, int kind) {
            switch (kind) {
                case PERSON:
                    readPerson(tape);
                    break;
                case POT:
                    readPot(tape);
                    break;
                case HEAP:
                    readHeap(tape);
                    break;
                case CHIPS:
                    chips = tape.number(0, 20);
                    break;
                default:
                    steep = tape.number(1, 9);
                    break;
            }
        }

        private void readPerson(Tape tape) {
            int what = tape.number(0, 99);
            if (tape.sound() && people < PEOPLE_AT_MOST) {
                wealth[people] = what;
                people++;
            }
        }

        private void readHeap(Tape tape) {
            int column = tape.number(0, COLUMNS - 1);
            int shards = tape.number(0, 9);
            if (tape.sound()) {
                oldShards[column] = shards;
            }
        }

        private void readPot(Tape tape) {
            if (pots >= POTS_AT_MOST) {
                return;
            }
            creditor[pots] = tape.number(0, people - 1);
            debtor[pots] = tape.number(0, people - 1);
            if (creditor[pots] == debtor[pots]) {
                tape.blame(NO_SUCH_NUMBER, tape.start);
            }
            due[pots] = tape.number(1, 40);
            dueYear[pots] = tape.number(0, 60);
            readPlaces(tape);
            pots++;
        }

        private void readPlaces(Tape tape) {
            int many = 0;
            for (int k = 0; k <= PLACES_AT_MOST && tape.sound() && !Tape.isLetter(tape.look()); k++) {
                int deepness = tape.number(0, DEPTH_AT_MOST);
                if (many < PLACES_AT_MOST) {
                    depths[pots * PLACES_AT_MOST + many] = deepness;
                    many++;
                } else {
                    tape.blame(TOO_MANY, tape.start);
                }
            }
            places[pots] = many;
            tape.takeWord();
            if (!tape.isWord("end")) {
                tape.blame(CANT_STAND, tape.start);
            } else if (many < 3) {
                tape.blame(TOO_FEW_PLACES, tape.start);
            }
        }

        boolean toldApartBy(int m) {
            for (int a = 0; a < pots; a++) {
                for (int b = a + 1; b < pots; b++) {
                    if (toldApart(a, b, m) <= 2 * chips) {
                        return false;
                    }
                }
            }
            return true;
        }

        private int toldApart(int a, int b, int m) {
            int sum = 0;
            for (int place = 0; place < m && place < PLACES_AT_MOST; place++) {
                sum += Math.abs(depths[a * PLACES_AT_MOST + place] - depths[b * PLACES_AT_MOST + place]);
            }
            return sum;
        }
    }

    /** A law, kept with each sign behind both its values, so that one row of values works it out. */
    private static final class Law {
        static final int NUMBER = 0;
        static final int DEPTH = 1;
        static final int PLACE = 2;
        static final int HALF = 3;
        static final int YEAR = 4;
        static final int AGE = 5;
        static final int DUE = 6;
        static final int PLUS = 7;
        static final int LESS = 8;
        static final int TIMES = 9;
        static final int BY = 10;
        static final int LEAST = 11;
        static final int MOST = 12;
        static final int UNKNOWN = -1;

        final int[] kind;
        final int[] given;
        final int[] values;
        final int[] leaves;
        int size;

        Law() {
            kind = new int[LAW_BYTES];
            given = new int[LAW_BYTES];
            values = new int[LAW_BYTES];
            leaves = new int[PLUS];
            size = 0;
        }

        void forget() {
            size = 0;
        }

        void readLaw(Tape tape) {
            size = 0;
            readSum(tape, 0);
            if (tape.look() != NONE) {
                tape.blame(CANT_STAND, tape.at);
            }
        }

        private void readSum(Tape tape, int open) {
            readProduct(tape, open);
            for (int k = 0; k < LAW_BYTES && tape.sound(); k++) {
                if (tape.takeSign('+')) {
                    readProduct(tape, open);
                    add(PLUS, 0);
                } else if (tape.takeSign('-')) {
                    readProduct(tape, open);
                    add(LESS, 0);
                } else {
                    return;
                }
            }
        }

        private void readProduct(Tape tape, int open) {
            readUnit(tape, open);
            for (int k = 0; k < LAW_BYTES && tape.sound(); k++) {
                if (tape.takeSign('*')) {
                    readUnit(tape, open);
                    add(TIMES, 0);
                } else if (tape.takeSign('/')) {
                    readUnit(tape, open);
                    add(BY, 0);
                } else {
                    return;
                }
            }
        }

        private void readUnit(Tape tape, int open) {
            int next = tape.look();
            if (next == '(' && open >= OPEN_AT_MOST) {
                tape.blame(TOO_MANY, tape.at);
            } else if (tape.takeSign('(')) {
                readSum(tape, open + 1);
                tape.expect(')');
            } else if (Tape.isDigit(next)) {
                add(NUMBER, tape.number(0, 999));
            } else {
                tape.takeWord();
                readNamed(tape, open, kindNamed(tape));
            }
        }

        private void readNamed(Tape tape, int open, int named) {
            if (named == UNKNOWN) {
                tape.blame(CANT_STAND, tape.start);
            } else if (named < PLUS) {
                add(named, 0);
            } else if (open >= OPEN_AT_MOST) {
                tape.blame(TOO_MANY, tape.start);
            } else {
                tape.expect('[');
                readSum(tape, open + 1);
                tape.expect(',');
                readSum(tape, open + 1);
                tape.expect(']');
                add(named, 0);
            }
        }

        private int kindNamed(Tape tape) {
            if (tape.isWord("depth")) {
                return DEPTH;
            }
            if (tape.isWord("place")) {
                return PLACE;
            }
            if (tape.isWord("half")) {
                return HALF;
            }
            if (tape.isWord("year")) {
                return YEAR;
            }
            if (tape.isWord("age")) {
                return AGE;
            }
            if (tape.isWord("due")) {
                return DUE;
            }
            if (tape.isWord("least")) {
                return LEAST;
            }
            return tape.isWord("most") ? MOST : UNKNOWN;
        }

        private void add(int what, int number) {
            if (size < kind.length) {
                kind[size] = what;
                given[size] = number;
                size++;
            }
        }

        int wears(int depth, int place, int half, int year, int age, int due) {
            // From DEPTH 0 nothing can go, whatever the law says.
            if (depth <= 0 || size == 0) {
                return 0;
            }
            leaves[DEPTH] = depth;
            leaves[PLACE] = place;
            leaves[HALF] = half;
            leaves[YEAR] = year;
            leaves[AGE] = age;
            leaves[DUE] = due;
            return Math.max(0, Math.min(depth, workedOut()));
        }

        private int workedOut() {
            int many = 0;
            for (int k = 0; k < size; k++) {
                int what = kind[k];
                if (what < PLUS) {
                    values[many] = what == NUMBER ? given[k] : leaves[what];
                    many++;
                } else if (many >= 2) {
                    many--;
                    values[many - 1] = joined(what, values[many - 1], values[many]);
                }
            }
            return values[0];
        }

        private static int joined(int what, int a, int b) {
            switch (what) {
                case PLUS:
                    return a + b;
                case LESS:
                    return a - b;
                case TIMES:
                    return a * b;
                case BY:
                    return b == 0 ? 0 : a / b;
                case LEAST:
                    return a < b ? a : b;
                default:
                    return a > b ? a : b;
            }
        }
    }

    /** The steps of a work in a row; an again stands ahead of its own steps and knows where they end. */
    private static final class Steps {
        static final int PAY = 0;
        static final int GIVE = 1;
        static final int THROW = 2;
        static final int DIG = 3;
        static final int YEAR = 4;
        static final int AGAIN = 5;
        static final int UNKNOWN = -1;

        final int[] kind;
        final int[] first;
        final int[] second;
        final int[] third;
        final int[] end;
        int size;
        int begun;
        int done;
        int refused;

        Steps() {
            kind = new int[WORK_BYTES];
            first = new int[WORK_BYTES];
            second = new int[WORK_BYTES];
            third = new int[WORK_BYTES];
            end = new int[WORK_BYTES];
            size = 0;
            begun = 0;
            done = 0;
            refused = 0;
        }

        void readWork(Tape tape, Plan plan) {
            size = 0;
            readSteps(tape, plan, 0);
        }

        private void readSteps(Tape tape, Plan plan, int open) {
            // Within brackets a text that ends too early is a fault, which takeWord() blames.
            int last = open == 0 ? NONE : ']';
            for (int k = 0; k < WORK_BYTES && tape.sound() && tape.look() != last; k++) {
                tape.takeWord();
                int what = kindNamed(tape);
                if (what == UNKNOWN) {
                    tape.blame(CANT_STAND, tape.start);
                } else if (what == AGAIN && open >= OPEN_AT_MOST) {
                    tape.blame(TOO_MANY, tape.start);
                } else if (size < kind.length) {
                    readStep(tape, plan, what, open);
                }
                tape.expect(';');
            }
        }

        private void readStep(Tape tape, Plan plan, int what, int open) {
            int step = size;
            size++;
            kind[step] = what;
            end[step] = size;
            switch (what) {
                case PAY:
                    first[step] = tape.number(0, plan.pots - 1);
                    break;
                case GIVE:
                    first[step] = tape.number(0, plan.pots - 1);
                    second[step] = tape.number(0, 1);
                    third[step] = tape.number(0, plan.people - 1);
                    break;
                case THROW:
                    first[step] = tape.number(0, plan.pots - 1);
                    second[step] = tape.number(0, COLUMNS - 1);
                    break;
                case DIG:
                    first[step] = tape.number(0, COLUMNS - 1);
                    break;
                case AGAIN:
                    first[step] = tape.number(0, 20);
                    tape.expect('[');
                    readSteps(tape, plan, open + 1);
                    tape.expect(']');
                    end[step] = size;
                    break;
                default:
                    break;
            }
        }

        private int kindNamed(Tape tape) {
            if (tape.isWord("pay")) {
                return PAY;
            }
            if (tape.isWord("give")) {
                return GIVE;
            }
            if (tape.isWord("throw")) {
                return THROW;
            }
            if (tape.isWord("dig")) {
                return DIG;
            }
            if (tape.isWord("year")) {
                return YEAR;
            }
            return tape.isWord("again") ? AGAIN : UNKNOWN;
        }
    }

    /** What a thumb has felt, place by place. */
    private static final class Touch {
        static final int NOTHING = DEPTH_AT_MOST + 1;

        final int[] felt;
        final int[] alike;
        int lines;

        Touch() {
            felt = new int[PLACES_AT_MOST];
            alike = new int[NOTHING + 1];
            lines = 0;
            for (int place = 0; place < PLACES_AT_MOST; place++) {
                felt[place] = NONE;
            }
        }

        void forget() {
            Arrays.fill(felt, NONE);
            lines = 0;
        }

        void readThumb(Tape tape) {
            forget();
            for (int k = 0; k < THUMB_BYTES && tape.sound() && tape.look() != NONE; k++) {
                int place = tape.number(0, PLACES_AT_MOST - 1);
                // A 7th line is always of a PLACE twice as well, and of two faults at one byte the lesser counts.
                if (tape.sound() && felt[place] != NONE) {
                    tape.blame(NO_SUCH_NUMBER, tape.start);
                }
                int deepness = tape.number(0, DEPTH_AT_MOST);
                if (tape.sound()) {
                    felt[place] = deepness;
                    lines++;
                }
                tape.expect(';');
            }
        }

        int fitting(Plan plan, Ground ground) {
            int bits = 0;
            for (int half = 0; half < 2 * plan.pots; half++) {
                if (isOf(plan, ground, half)) {
                    bits |= 1 << half;
                }
            }
            return bits;
        }

        private boolean isOf(Plan plan, Ground ground, int half) {
            if (ground.state[half / 2] != OPEN) {
                return false;
            }
            for (int place = 0; place < PLACES_AT_MOST; place++) {
                if (felt[place] != NONE && felt[place] != feltAt(plan, ground, half, place)) {
                    return false;
                }
            }
            return true;
        }

        private int feltAt(Plan plan, Ground ground, int half, int place) {
            return place < plan.places[half / 2] ? ground.depths[half * PLACES_AT_MOST + place] : NOTHING;
        }

        int leftAtWorst(Plan plan, Ground ground, int place) {
            Arrays.fill(alike, 0);
            int most = 0;
            for (int half = 0; half < 2 * plan.pots; half++) {
                if (isOf(plan, ground, half)) {
                    int answer = feltAt(plan, ground, half, place);
                    alike[answer]++;
                    most = Math.max(most, alike[answer]);
                }
            }
            return most;
        }
    }

    /** The heap: columns of shards, each the number of its pot, or an old one. */
    private static final class Heap {
        /** All old shards and all third shards in one column, and one more that is asked about. */
        static final int ROWS = 9 * COLUMNS + POTS_AT_MOST + 1;
        static final int SLIDES_AT_MOST = 1000000;

        final int[] heights;
        final int[] shards;

        Heap() {
            heights = new int[COLUMNS];
            shards = new int[COLUMNS * ROWS];
        }

        void begin(Plan plan) {
            for (int column = 0; column < COLUMNS; column++) {
                heights[column] = 0;
                for (int k = 0; k < plan.oldShards[column]; k++) {
                    put(column, OLD_SHARD);
                }
            }
        }

        void copyFrom(Heap other) {
            System.arraycopy(other.heights, 0, heights, 0, heights.length);
            System.arraycopy(other.shards, 0, shards, 0, shards.length);
        }

        void put(int column, int shard) {
            if (heights[column] < ROWS) {
                shards[column * ROWS + heights[column]] = shard;
                heights[column]++;
            }
        }

        int lift(int column) {
            if (heights[column] <= 0) {
                return NONE;
            }
            heights[column]--;
            return shards[column * ROWS + heights[column]];
        }

        int shardAt(int column, int k) {
            return k < heights[column] ? shards[column * ROWS + k] : NONE;
        }

        private int lowerBeside(int column) {
            if (column == 0) {
                return 1;
            }
            if (column == COLUMNS - 1) {
                return column - 1;
            }
            return heights[column + 1] < heights[column - 1] ? column + 1 : column - 1;
        }

        void fall(int column) {
            int beside = lowerBeside(column);
            put(beside, lift(column));
        }

        int firstToSlide(int steep) {
            for (int column = 0; column < COLUMNS; column++) {
                if (heights[column] - heights[lowerBeside(column)] > steep) {
                    return column;
                }
            }
            return NONE;
        }

        int settle(int steep) {
            for (int slides = 0; slides < SLIDES_AT_MOST; slides++) {
                int column = firstToSlide(steep);
                if (column == NONE) {
                    return slides;
                }
                fall(column);
            }
            return SLIDES_AT_MOST;
        }

        int shardsInAll() {
            int sum = 0;
            for (int column = 0; column < COLUMNS; column++) {
                sum += heights[column];
            }
            return sum;
        }

        int heightAtMost() {
            int most = 0;
            for (int column = 0; column < COLUMNS; column++) {
                most = Math.max(most, heights[column]);
            }
            return most;
        }

        int columnOf(int shard) {
            for (int column = 0; column < COLUMNS; column++) {
                if (rowOf(column, shard) != NONE) {
                    return column;
                }
            }
            return NONE;
        }

        private int rowOf(int column, int shard) {
            for (int k = 0; k < heights[column]; k++) {
                if (shards[column * ROWS + k] == shard) {
                    return k;
                }
            }
            return NONE;
        }

        int downTo(int shard) {
            int column = columnOf(shard);
            return column == NONE ? NONE : heights[column] - rowOf(column, shard);
        }

        /**
         * A column of h shards weighs h (h + 1) / 2, so (h + 1) / 2 for each shard dug: the fewest are dug on the
         * mean if the highest column comes first, and only columns alike in height may change places for nothing.
         */
        int highestBut(int dug) {
            int best = NONE;
            for (int column = 0; column < COLUMNS; column++) {
                boolean left = heights[column] > 0 && (dug >> column & 1) == 0;
                if (left && (best == NONE || heights[column] > heights[best])) {
                    best = column;
                }
            }
            return best;
        }

        int weighedDigging() {
            int sum = 0;
            int shardsDug = 0;
            int dug = 0;
            for (int k = 0; k < COLUMNS; k++) {
                int column = highestBut(dug);
                if (column == NONE) {
                    break;
                }
                dug |= 1 << column;
                for (int weight = heights[column]; weight > 0; weight--) {
                    shardsDug++;
                    sum += weight * shardsDug;
                }
            }
            return sum;
        }

        int weightInAll() {
            int sum = 0;
            for (int column = 0; column < COLUMNS; column++) {
                sum += heights[column] * (heights[column] + 1) / 2;
            }
            return sum;
        }
    }

    /** All that work changes. */
    private static final class Ground {
        int year;
        final int[] wealth;
        final int[] state;
        final int[] holder;
        final int[] age;
        final int[] depths;
        final Heap heap;

        Ground() {
            year = 0;
            wealth = new int[PEOPLE_AT_MOST];
            state = new int[POTS_AT_MOST];
            holder = new int[HALVES_AT_MOST];
            age = new int[HALVES_AT_MOST];
            depths = new int[HALVES_AT_MOST * PLACES_AT_MOST];
            heap = new Heap();
        }

        void begin(Plan plan) {
            year = 0;
            System.arraycopy(plan.wealth, 0, wealth, 0, wealth.length);
            Arrays.fill(state, OPEN);
            Arrays.fill(age, 0);
            for (int pot = 0; pot < plan.pots; pot++) {
                holder[2 * pot] = plan.creditor[pot];
                holder[2 * pot + 1] = plan.debtor[pot];
                int told = pot * PLACES_AT_MOST;
                System.arraycopy(plan.depths, told, depths, 2 * told, PLACES_AT_MOST);
                System.arraycopy(plan.depths, told, depths, 2 * told + PLACES_AT_MOST, PLACES_AT_MOST);
            }
            heap.begin(plan);
        }

        void copyFrom(Ground other) {
            year = other.year;
            System.arraycopy(other.wealth, 0, wealth, 0, wealth.length);
            System.arraycopy(other.state, 0, state, 0, state.length);
            System.arraycopy(other.holder, 0, holder, 0, holder.length);
            System.arraycopy(other.age, 0, age, 0, age.length);
            System.arraycopy(other.depths, 0, depths, 0, depths.length);
            heap.copyFrom(other.heap);
        }

        boolean payPot(Plan plan, int pot) {
            int payer = holder[2 * pot + 1];
            if (state[pot] != OPEN || !halvesMeet(plan, pot) || wealth[payer] < plan.due[pot]) {
                return false;
            }
            wealth[payer] -= plan.due[pot];
            wealth[holder[2 * pot]] += plan.due[pot];
            state[pot] = PAID;
            return true;
        }

        boolean giveHalf(int pot, int side, int person) {
            int half = 2 * pot + side;
            if (state[pot] != OPEN || holder[half] == person) {
                return false;
            }
            holder[half] = person;
            age[half] = 0;
            return true;
        }

        boolean throwShard(int pot, int column, int steep) {
            if (heap.columnOf(pot) != NONE) {
                return false;
            }
            heap.put(column, pot);
            heap.settle(steep);
            return true;
        }

        boolean digColumn(int column, int steep) {
            if (heap.heights[column] == 0) {
                return false;
            }
            heap.lift(column);
            heap.settle(steep);
            return true;
        }

        void passYear(Plan plan, Law law) {
            for (int pot = 0; pot < plan.pots; pot++) {
                wearPot(plan, law, pot);
            }
            year++;
        }

        void wearPot(Plan plan, Law law, int pot) {
            if (state[pot] != OPEN) {
                return;
            }
            int due = isDue(plan, pot) ? 1 : 0;
            for (int half = 2 * pot; half <= 2 * pot + 1; half++) {
                int left = 0;
                for (int place = 0; place < plan.places[pot]; place++) {
                    int k = half * PLACES_AT_MOST + place;
                    depths[k] -= law.wears(depths[k], place, half % 2, year, age[half], due);
                    left += depths[k];
                }
                age[half]++;
                if (left == 0) {
                    state[pot] = VOID;
                }
            }
        }

        int apart(int places, int a, int b) {
            int sum = 0;
            for (int place = 0; place < places; place++) {
                sum += Math.abs(depths[a * PLACES_AT_MOST + place] - depths[b * PLACES_AT_MOST + place]);
            }
            return sum;
        }

        boolean halvesMeet(Plan plan, int pot) {
            return apart(plan.places[pot], 2 * pot, 2 * pot + 1) <= plan.chips;
        }

        /** Chips come only off what is too deep: what is too shallow by more than may be stays so. */
        int chipsFor(Plan plan, int a, int b) {
            int places = plan.places[a / 2];
            if (places != plan.places[b / 2]) {
                return NONE;
            }
            int tooShallow = 0;
            for (int place = 0; place < places; place++) {
                int more = depths[b * PLACES_AT_MOST + place] - depths[a * PLACES_AT_MOST + place];
                tooShallow += Math.max(0, more);
            }
            if (tooShallow > plan.chips) {
                return NONE;
            }
            return Math.max(0, apart(places, a, b) - plan.chips);
        }

        boolean isDue(Plan plan, int pot) {
            return state[pot] == OPEN && year > plan.dueYear[pot];
        }

        int countOf(Plan plan, int what) {
            int many = 0;
            for (int pot = 0; pot < plan.pots; pot++) {
                if (state[pot] == what) {
                    many++;
                }
            }
            return many;
        }

        int countDue(Plan plan) {
            int many = 0;
            for (int pot = 0; pot < plan.pots; pot++) {
                if (isDue(plan, pot)) {
                    many++;
                }
            }
            return many;
        }

        int countMeeting(Plan plan) {
            int many = 0;
            for (int pot = 0; pot < plan.pots; pot++) {
                if (state[pot] == OPEN && halvesMeet(plan, pot)) {
                    many++;
                }
            }
            return many;
        }

        int owedBy(Plan plan, int person, int other) {
            if (person == other) {
                return 0;
            }
            int sum = 0;
            for (int pot = 0; pot < plan.pots; pot++) {
                if (state[pot] == OPEN && holder[2 * pot + 1] == person && holder[2 * pot] == other) {
                    sum += plan.due[pot];
                }
            }
            return sum;
        }

        int netOf(Plan plan, int person) {
            int sum = 0;
            for (int other = 0; other < plan.people; other++) {
                sum += owedBy(plan, other, person) - owedBy(plan, person, other);
            }
            return sum;
        }

        /** No claim is above 40, so that a higher level gives no more. */
        int levelFor(Plan plan, int n) {
            int level = 0;
            for (int k = 1; k <= 40; k++) {
                if (givenUpTo(plan, k) <= n) {
                    level = k;
                }
            }
            return level;
        }

        private int givenUpTo(Plan plan, int level) {
            int sum = 0;
            for (int pot = 0; pot < plan.pots; pot++) {
                if (isDue(plan, pot)) {
                    sum += Math.min(level, plan.due[pot]);
                }
            }
            return sum;
        }

        int halvesOf(Plan plan, int person) {
            int bits = 0;
            for (int half = 0; half < 2 * plan.pots; half++) {
                if (state[half / 2] == OPEN && holder[half] == person) {
                    bits |= 1 << half;
                }
            }
            return bits;
        }

        int bothHalvesOf(Plan plan, int person) {
            int halves = halvesOf(plan, person);
            int bits = 0;
            for (int pot = 0; pot < plan.pots; pot++) {
                if ((halves >> (2 * pot) & 3) == 3) {
                    bits |= 1 << pot;
                }
            }
            return bits;
        }
    }

    /** The ground as it was, and the works ahead of that which can be undone. */
    private static final class Saved {
        final Ground ground;
        final Saved earlier;
        final int works;

        Saved(Ground now, Saved earlierWorks, int worksThen) {
            ground = new Ground();
            ground.copyFrom(now);
            earlier = earlierWorks;
            works = worksThen;
        }
    }

    /** The shortest ring of people each of whom owes the next. */
    private static final class Ring {
        final int[] row;
        final int[] owes;
        int size;

        Ring() {
            row = new int[PEOPLE_AT_MOST];
            owes = new int[PEOPLE_AT_MOST];
            size = 0;
        }

        void look(Plan plan, Ground ground) {
            for (int person = 0; person < plan.people; person++) {
                owes[person] = 0;
                for (int other = 0; other < plan.people; other++) {
                    if (ground.owedBy(plan, person, other) > 0) {
                        owes[person] |= 1 << other;
                    }
                }
            }
            size = 0;
            for (int many = 2; many <= plan.people && size == 0; many++) {
                lookForRow(plan.people, many);
            }
        }

        private void lookForRow(int people, int many) {
            for (int person = 0; person < people; person++) {
                row[0] = person;
                if (goesOn(people, many, 1)) {
                    size = many;
                    return;
                }
            }
        }

        /**
         * Rows are tried in their own order, so that the first one found is the first of all. Nobody can come twice
         * in one: that would hold a shorter ring, and those were looked for ahead of this.
         */
        private boolean goesOn(int people, int many, int length) {
            int owing = owes[row[length - 1]];
            if (length >= many || length >= row.length) {
                return (owing >> row[0] & 1) == 1;
            }
            for (int person = row[0] + 1; person < people; person++) {
                if ((owing >> person & 1) == 1) {
                    row[length] = person;
                    if (goesOn(people, many, length + 1)) {
                        return true;
                    }
                }
            }
            return false;
        }

        int digits() {
            int sum = 0;
            for (int k = 0; k < size; k++) {
                sum = sum * 10 + row[k] + 1;
            }
            return sum;
        }
    }

    /** Goats on a heap of their own. */
    private static final class Goats {
        final Heap heap;
        int lot;
        int kicks;
        int slides;

        Goats() {
            heap = new Heap();
            lot = 0;
            kicks = 0;
            slides = 0;
        }

        void kickAbout(Heap from, int steep, int seed, int q, int years) {
            heap.copyFrom(from);
            lot = seed;
            kicks = 0;
            slides = 0;
            for (int year = 0; year < years; year++) {
                if (draw() % 16 < q) {
                    kick(draw() % COLUMNS);
                    slides += heap.settle(steep);
                }
            }
        }

        private void kick(int column) {
            if (heap.heights[column] > 0) {
                heap.fall(column);
                kicks++;
            }
        }

        private int draw() {
            lot = lot * 1103515245 + 12345;
            return lot >>> 16 & 32767;
        }
    }
}
