/**
 * The edges that "==== 1." of the terms and promises 1 to 7 name, a sentence at a time: each bound is met, and missed by
 * one. The quoted words are the document's.
 */
public final class EdgeTextTest {
    private static final String TWO = "person 1;person 1;";
    private static final String POT = "pot 0 1 1 1 1 1 1 end;";

    public static void main(String[] args) {
        feeds();
        clauses();
        persons();
        potPeople();
        potNumbers();
        potPlaces();
        potsAtMost();
        heaps();
        chips();
        steeps();
        hillBytes();
        lawBytes();
        lawEnds();
        lawClamps();
        lawNumbers();
        lawSums();
        lawWords();
        lawWraps();
        lawOpen();
        workBytes();
        workNumbers();
        workOpen();
        thumbBytes();
        thumbLines();
        numbersAndWords();
        blanks();
        textsThatEndTooEarly();
        firstFromTheLeft();
        ofOneTheLeast();
        callsOfTexts();
        faults();
        Check.end("EdgeTextTest");
    }

    private static void hill(String why, String text, int want, int place) {
        PotHill x = new PotHill();
        Check.fault(x, why + ": " + text, Check.hill(x, text), want, place);
    }

    private static void law(String why, String text, int want, int place) {
        PotHill x = new PotHill();
        Check.fault(x, why + ": " + text, Check.law(x, text), want, place);
    }

    private static void work(String why, String text, int want, int place) {
        PotHill x = Check.on(TWO + POT + POT + "heap 0 9;steep 9;");
        Check.fault(x, why + ": " + text, Check.work(x, text), want, place);
        Check.due(why + ": works there are", x.count(2), want < 0 ? 0 : 1);
    }

    private static void thumb(String why, String text, int want, int place) {
        PotHill x = new PotHill();
        Check.fault(x, why + ": " + text, Check.thumb(x, text), want, place);
    }

    /** Promise 2: "of each number the highest first", "NONE, doing nothing, if there would be more than 600". */
    private static void feeds() {
        PotHill x = new PotHill();
        Check.due("20", x.feed(0x73746565, 0x70203900, 0, 0, 0x3b303037), 20);
        Check.fault(x, "'steep 9' and a byte 0", x.hill(20), -9, 7);
        Check.put(x, "heap 0 9;heap 1 ");
        Check.due("the second twenty stand behind the first", x.feed(0x31203b20, 0x20202020, 0x20202020, 0x20202020,
            0x20202020), 40);
        Check.due("so", x.hill(9), 0);
        Check.due("height(0)", x.height(0), 9);
        for (int k = 1; k < 30; k++) {
            x.feed(0x20202020, 0x20202020, 0x20202020, 0x20202020, 0x20202020);
        }
        Check.due("600 is not more than 600", x.feed(0x20202020, 0x20202020, 0x20202020, 0x20202020, 0x20202020), 600);
        Check.due("620 is", x.feed(0x21212121, 0x21212121, 0x21212121, 0x21212121, 0x21212121), -1);
        Check.due("doing nothing: bytes", x.count(1), 600);
        Check.fault(x, "doing nothing: blanks as they were", x.hill(600), 0, -1);
        PotHill y = new PotHill();
        y.feed(0xe9e9e9e9, 0xffffffff, 0x80808080, -1, Integer.MIN_VALUE);
        Check.fault(y, "bytes above 127", y.law(20), -9, 0);
    }

    /** "{ CLAUSE ; }, at most 60", "3 a CLAUSE .. (at its word) .. too many". */
    private static void clauses() {
        Check.due("no CLAUSE", Check.hill(new PotHill(), ""), 0);
        hill("60", "steep 1;".repeat(60), 0, -1);
        hill("the 61st", "steep 1;".repeat(60) + "  steep 1;", -7, 482);
        hill("the 61st, whatever it is", "steep 1;".repeat(60) + "heap 0 0;", -7, 480);
        hill("the 60th, a PERSON", "steep 1;".repeat(59) + "person 1;", 0, -1);
        hill("the 61st, a POT that is none", "steep 1;".repeat(58) + "person 1;".repeat(2) + "pot", -7, 482);
        hill("without its ;", "steep 1;".repeat(60) + "steep", -7, 480);
    }

    /** "PEOPLE, numbered from 0 on, 8 at most: has W, 0 to 99". */
    private static void persons() {
        PotHill x = Check.on("person 0;person 99;");
        Check.due("W 0", x.has(0), 0);
        Check.due("W 99", x.has(1), 99);
        hill("W 100", "person 99;person 100;", -8, 17);
        StringBuilder eight = new StringBuilder();
        for (int k = 0; k < 8; k++) {
            eight.append("person ").append(10 * k + 7).append(';');
        }
        PotHill y = Check.on(eight.toString());
        Check.due("8 PEOPLE", y.told(0), 8);
        for (int k = 0; k < 8; k++) {
            Check.due("PERSON " + k, y.has(k), 10 * k + 7);
        }
        hill("a 9th", eight + " person 1;", -7, eight.length() + 1);
        hill("a 9th whose W is none", eight + "person 100;", -7, eight.length());
    }

    /** "creditor C, debtor D, who is not C, both told ahead". */
    private static void potPeople() {
        PotHill x = Check.on("person 1;person 2;person 3;pot 2 0 1 1 1 1 1 end;");
        Check.due("C", x.pot(0, 4), 2);
        Check.due("D", x.pot(0, 5), 0);
        hill("D as C: at it", TWO + "pot 0 0 1 1 1 1 1 end;", -8, 24);
        hill("D as C, the last", TWO + "pot 1 1 1 1 1 1 1 end;", -8, 24);
        hill("D as C with a zero ahead", TWO + "pot 1 01 1 1 1 1 1 end;", -8, 24);
        hill("C not told", TWO + "pot 2 0 1 1 1 1 1 end;", -8, 22);
        hill("D not told", TWO + "pot 0 2 1 1 1 1 1 end;", -8, 24);
        hill("D told behind it", "person 1;pot 0 1 1 1 1 1 1 end;person 1;", -8, 15);
        hill("C told behind it", "person 1;pot 1 0 1 1 1 1 1 end;person 1;", -8, 13);
        hill("nobody", "pot 0 0 1 1 1 1 1 end;", -8, 4);
        hill("told between POTS", TWO + POT + "person 1;pot 2 1 1 1 1 1 1 end;", 2, -1);
        hill("D of 8", "person 1;".repeat(8) + "pot 0 7 1 1 1 1 1 end;", 1, -1);
        hill("D 8 of 8", "person 1;".repeat(8) + "pot 0 8 1 1 1 1 1 end;", -8, 78);
    }

    /** "N is due, 1 to 40, in YEAR Y, 0 to 60", "of DEPTH K, 0 to 9". */
    private static void potNumbers() {
        PotHill x = Check.on(TWO + "pot 0 1 1 0 0 9 0 end;pot 1 0 40 60 9 0 9 end;");
        Check.due("N 1", x.pot(0, 0), 1);
        Check.due("Y 0", x.pot(0, 1), 0);
        Check.due("N 40", x.pot(1, 0), 40);
        Check.due("Y 60", x.pot(1, 1), 60);
        for (int place = 0; place < 3; place++) {
            Check.due("K of pot 0", x.depth(0, 0, place), place == 1 ? 9 : 0);
            Check.due("K of pot 1", x.depth(1, 1, place), place == 1 ? 0 : 9);
        }
        hill("N 0", TWO + "pot 0 1 0 1 1 1 1 end;", -8, 26);
        hill("N 41", TWO + "pot 0 1 41 1 1 1 1 end;", -8, 26);
        hill("Y 61", TWO + "pot 0 1 40 61 1 1 1 end;", -8, 29);
        hill("K 10, the first", TWO + "pot 0 1 1 1 10 1 1 end;", -8, 30);
        hill("K 10, the third", TWO + "pot 0 1 1 1 1 1 10 end;", -8, 34);
        hill("K 10, the sixth", TWO + "pot 0 1 1 1 1 1 1 1 1 10 end;", -8, 40);
    }

    /** "3 to 6 PLACES", "a 7th PLACE (at it)", "4 an end with fewer than 3 PLACES (at it)". */
    private static void potPlaces() {
        String pot = TWO + "pot 0 1 1 1";
        hill("no PLACE", pot + " end;", -6, 30);
        hill("1", pot + " 1 end;", -6, 32);
        hill("2", pot + " 1 1 end;", -6, 34);
        for (int many = 3; many <= 6; many++) {
            PotHill x = Check.on(pot + " 1".repeat(many) + " end;");
            Check.due("PLACES", x.pot(0, 2), many);
        }
        hill("7", pot + " 1".repeat(7) + " end;", -7, 42);
        hill("7, and more", pot + " 1".repeat(9) + " end;", -7, 42);
        hill("2, and a word that can't stand there", pot + " 1 1 ende;", -9, 34);
        hill("6, and a ;", pot + " 1".repeat(6) + ";", -9, 41);
        hill("the second POT's", pot + " 1 1 1 end;pot 1 0 1 1 1 1 end;", -6, 56);
    }

    /** "POTS likewise, 8". */
    private static void potsAtMost() {
        PotHill x = new PotHill();
        Check.due("8 POTS", Check.hill(x, TWO + POT.repeat(7) + "pot 1 0 33 1 1 1 1 end;"), 8);
        Check.due("numbered from 0 on", x.pot(7, 0), 33);
        Check.due("the one ahead", x.pot(6, 0), 1);
        hill("a 9th", TWO + POT.repeat(8) + "  " + POT, -7, 196);
        hill("a 9th whose numbers are none", TWO + POT.repeat(8) + "pot 9 9", -7, 194);
    }

    /** "COLUMN X, 0 to 7, has H old shards, 0 to 9; 0 without; the last counts". */
    private static void heaps() {
        PotHill x = Check.on("heap 0 9;heap 7 9;heap 3 0;heap 5 4;heap 5 0;heap 6 1;heap 6 8;");
        int[] want = {9, 0, 0, 0, 0, 0, 8, 9};
        for (int column = 0; column < 8; column++) {
            Check.due("height(" + column + ")", x.height(column), want[column]);
        }
        hill("X 8", "heap 8 0;", -8, 5);
        hill("H 10", "heap 0 10;", -8, 7);
        hill("X 8 and H 10", "heap 8 10;", -8, 5);
    }

    /** "chips T (0 to 20; 2 without; the last counts)": told by the chips a half needs to pass for one 9 9 9 less deep. */
    private static void chips() {
        String pots = TWO + "pot 0 1 1 1 9 9 9 end;pot 0 1 1 1 0 0 0 end;";
        Check.due("2 without", Check.on(pots).forge(0, 2), 25);
        Check.due("0", Check.on(pots + "chips 0;").forge(0, 2), 27);
        Check.due("20", Check.on(pots + "chips 20;").forge(0, 2), 7);
        Check.due("the last counts", Check.on("chips 20;" + pots + "chips 3;").forge(0, 2), 24);
        hill("21", "chips 21;", -8, 6);
    }

    /** "steep S (1 to 9; 2 without; the last counts)". */
    private static void steeps() {
        Check.due("2 without: 2 may lie", Check.on("heap 0 1;").tossed(0, 0), 0);
        Check.due("3 may not", Check.on("heap 0 2;").tossed(0, 0), 1);
        Check.due("1: 1 may lie", Check.on("steep 1;").tossed(0, 0), 0);
        Check.due("2 may not", Check.on("heap 0 1;steep 1;").tossed(0, 0), 1);
        Check.due("9: 9 may lie", Check.on("heap 0 8;steep 9;").tossed(0, 0), 0);
        Check.due("10 may not", Check.on("heap 0 9;steep 9;").tossed(0, 0), 1);
        Check.due("the last counts", Check.on("steep 1;heap 0 2;steep 3;").tossed(0, 0), 0);
        hill("0", "steep 0;", -8, 6);
        hill("10", "steep 10;", -8, 6);
    }

    /** "A HILL is a text of up to 600 bytes". */
    private static void hillBytes() {
        hill("600", " ".repeat(590) + "heap 7 2 ;", 0, -1);
        hill("600, the ; would be the 601st", " ".repeat(592) + "heap 7 2", -9, 600);
        PotHill x = new PotHill();
        Check.put(x, " ".repeat(600));
        Check.none("601", () -> x.hill(601));
        Check.due("it stays", x.count(1), 600);
    }

    /** "A LAW is a text of up to 150 bytes"; promise 4 "(n to 150)". */
    private static void lawBytes() {
        PotHill x = new PotHill();
        Check.due("150", Check.law(x, " ".repeat(149) + "7"), 1);
        Check.due("its last byte counts", x.would(9, 0, 0, 0, 0, 0), 7);
        Check.put(x, "7" + " ".repeat(159));
        Check.none("151", () -> x.law(151));
        Check.due("it stays", x.count(1), 160);
        Check.due("150 of 160", x.law(150), 1);
        Check.due("all 160 are gone", x.count(1), 0);
    }

    /** "E, at the end nothing more; without: 0". */
    private static void lawEnds() {
        PotHill x = new PotHill();
        Check.due("without", x.would(9, 5, 1, 200, 200, 1), 0);
        law("nothing", "", -9, 0);
        law("blanks alone", "    ", -9, 4);
        law("a number more", "1 1", -9, 2);
        law("a word more", "depth depth", -9, 6);
        law("a word behind a number", "1depth", -9, 1);
        law("a ; more", "1 ;", -9, 2);
        law("a ) more", "(1))", -9, 3);
        law("a ] more", "least[1,1]]", -9, 10);
        law("blanks at the end", "1   ", 1, -1);
        law("an + at the end", "1 + ", -9, 4);
        law("an * at the end", "1*", -9, 2);
    }

    private static int worn(String law, int depth, int place, int half, int year, int age) {
        PotHill x = new PotHill();
        Check.due("law " + law, Check.law(x, law), 1);
        return x.would(depth, place, half, year, age, 0);
    }

    /** "what comes out, 0 at least, its DEPTH at most". */
    private static void lawClamps() {
        Check.due("-1", worn("0-1", 9, 0, 0, 0, 0), 0);
        Check.due("0", worn("0", 9, 0, 0, 0, 0), 0);
        Check.due("1", worn("1", 9, 0, 0, 0, 0), 1);
        Check.due("its DEPTH", worn("4", 4, 0, 0, 0, 0), 4);
        Check.due("one more", worn("5", 4, 0, 0, 0, 0), 4);
        Check.due("one less", worn("3", 4, 0, 0, 0, 0), 3);
        Check.due("of DEPTH 0", worn("5", 0, 0, 0, 0, 0), 0);
        Check.due("the least number", worn("0-256*256*256*128", 9, 0, 0, 0, 0), 0);
        Check.due("the greatest", worn("256*256*256*128-1", 9, 0, 0, 0, 0), 9);
    }

    /** "N (0 to 999)". */
    private static void lawNumbers() {
        Check.due("999", worn("999-995", 9, 0, 0, 0, 0), 4);
        Check.due("0", worn("3+0", 9, 0, 0, 0, 0), 3);
        Check.due("zeros ahead", worn("0000000000003", 9, 0, 0, 0, 0), 3);
        law("1000", "1000", -8, 0);
        law("1000 behind a sign", "1 - 1000", -8, 4);
        law("2 to the 32nd", "4294967296", -8, 0);
        law("2 to the 32nd and 1", "1+4294967297", -8, 2);
    }

    /** "E: T { + or - T }. T: U { * or / U }": from the left, * and / ahead of + and -. */
    private static void lawSums() {
        Check.due("9-4-3", worn("9-4-3", 9, 0, 0, 0, 0), 2);
        Check.due("9-4+3", worn("9-4+3", 9, 0, 0, 0, 0), 8);
        Check.due("8/4/2", worn("8/4/2", 9, 0, 0, 0, 0), 1);
        Check.due("8/4*2", worn("8/4*2", 9, 0, 0, 0, 0), 4);
        Check.due("7/2*2", worn("7/2*2", 9, 0, 0, 0, 0), 6);
        Check.due("1+2*3", worn("1+2*3", 9, 0, 0, 0, 0), 7);
        Check.due("8-6/2", worn("8-6/2", 9, 0, 0, 0, 0), 5);
        Check.due("2*3+1", worn("2*3+1", 9, 0, 0, 0, 0), 7);
        Check.due("2*(3+1)", worn("2*(3+1)", 9, 0, 0, 0, 0), 8);
        Check.due("8-(4-3)", worn("8-(4-3)", 9, 0, 0, 0, 0), 7);
        law("no sign ahead", "-1", -9, 0);
        law("two signs", "1--1", -9, 2);
        law("nothing in ( )", "1*()", -9, 3);
    }

    /** "depth", "place", "half", "year", "age", "due", "least", "most": each its own value. */
    private static void lawWords() {
        PotHill x = new PotHill();
        String[] words = {"depth", "place", "half", "year", "age", "due"};
        int[] values = {8, 3, 1, 6, 5, 0};
        for (int k = 0; k < 6; k++) {
            Check.law(x, words[k]);
            Check.due(words[k], x.would(8, 3, 1, 6, 5, 0), values[k]);
            Check.due(words[k] + ", with due", x.would(8, 3, 1, 6, 5, 1), k == 5 ? 1 : values[k]);
        }
        Check.due("the least of two", worn("least[4,3]", 9, 0, 0, 0, 0), 3);
        Check.due("the other way", worn("least[3,4]", 9, 0, 0, 0, 0), 3);
        Check.due("the most of two", worn("most[4,3]", 9, 0, 0, 0, 0), 4);
        Check.due("the other way", worn("most[3,4]", 9, 0, 0, 0, 0), 4);
        Check.due("below 0", worn("most[0-5,0-3]+9", 9, 0, 0, 0, 0), 6);
        Check.due("E in them", worn("least[1+1*3,2*4-1]", 9, 0, 0, 0, 0), 4);
        law("one value", "least[1]", -9, 7);
        law("three", "most[1,2,3]", -9, 8);
        law("round brackets", "most(1,2)", -9, 4);
        law("no comma", "least[1 2]", -9, 8);
        law("nothing ahead of the comma", "least[,2]", -9, 6);
        law("square brackets alone", "[1]", -9, 0);
        law("a capital", "Depth", -9, 0);
        law("a part of a word", "dep", -9, 0);
        law("more than a word", "mosts[1,2]", -9, 0);
    }

    /** "Values are whole numbers of 32 bits that wrap; / cuts, by 0 it is 0". */
    private static void lawWraps() {
        Check.due("* wraps to 0", worn("256*256*256*256", 9, 0, 0, 0, 0), 0);
        Check.due("+ wraps", worn("(256*256*256*128-1+1)/256/256/256+130", 9, 0, 0, 0, 0), 2);
        Check.due("- wraps", worn("(0-256*256*256*128-1)/256/256/256-120", 9, 0, 0, 0, 0), 7);
        Check.due("9/2", worn("9/2", 9, 0, 0, 0, 0), 4);
        Check.due("-9/2 is -4", worn("(0-9)/2+9", 9, 0, 0, 0, 0), 5);
        Check.due("9/-2 is -4", worn("9/(0-2)+9", 9, 0, 0, 0, 0), 5);
        Check.due("-9/-2 is 4", worn("(0-9)/(0-2)", 9, 0, 0, 0, 0), 4);
        Check.due("-1/2 is 0", worn("(0-1)/2+1", 9, 0, 0, 0, 0), 1);
        Check.due("9/0 is 0", worn("9/0+1", 9, 0, 0, 0, 0), 1);
        Check.due("0/0 is 0", worn("0/0+1", 9, 0, 0, 0, 0), 1);
        Check.due("9/0*5+2", worn("9/0*5+2", 9, 0, 0, 0, 0), 2);
        Check.due("by what is 0 now", worn("6/half+2", 9, 0, 0, 0, 0), 2);
        Check.due("the least number by -1", worn("256*256*256*128/(0-1)/256/256/256+130", 9, 0, 0, 0, 0), 2);
    }

    /** "a 7th of ( least most again that is open at one time". */
    private static void lawOpen() {
        String[] six = {"((((((", "least[least[least[most[most[most[", "((least[most[((", "most[1,most[1,most[1,(((",
            "least[(1),((((("};
        for (String open : six) {
            law("six are open, 1 and no end", open + "1", -9, open.length() + 1);
            law("a 7th, (", open + " (1", -7, open.length() + 1);
            law("a 7th, least", open + "least[1", -7, open.length());
            law("a 7th, most", open + "most", -7, open.length());
            law("a 7th behind a sign", open + "1+(", -7, open.length() + 2);
            law("a ( where none can stand", open + "1(", -9, open.length() + 1);
        }
        law("six", "((((((1))))))", 1, -1);
        law("six of all kinds", "(least[(most[1,(least[1,2])]),3])", 1, -1);
        law("six twice", "((((((1))))))*((((((1))))))", 1, -1);
        law("six in both of a least's", "least[(((((1))))),(((((2)))))]", 1, -1);
        law("seven in its second", "least[1,((((((2))))))]", -7, 13);
        law("five of them closed, then two", "((((((1)))))+(((((1", -9, 19);
        law("and a 7th", "((((((1)))))+((((((1", -7, 18);
    }

    /** "WORK is a text of up to 150 bytes"; promise 5 "(n to 150)". */
    private static void workBytes() {
        PotHill x = Check.on("heap 0 9;steep 9;");
        Check.due("150", Check.work(x, " ".repeat(144) + "dig 0;"), 1);
        Check.due("its last byte counts", x.height(0), 8);
        Check.fault(x, "the ; would be the 151st", Check.work(x, " ".repeat(145) + "dig 0"), -9, 150);
        Check.put(x, "dig 0;" + " ".repeat(154));
        Check.none("151", () -> x.work(151));
        Check.due("it stays", x.count(1), 160);
        Check.due("none is done", x.height(0), 8);
        Check.due("150 of 160", x.work(150), 1);
    }

    /** "pay P, give P H Q (half H, 0 or 1, to PERSON Q), throw P X, dig X, year, or again N (N 0 to 20)". */
    private static void workNumbers() {
        work("P 0", "pay 0;", 1, -1);
        work("P 1", "pay 1;", 1, -1);
        work("P 2", "pay 1;pay 2;", -8, 10);
        work("give: P 2", "give 2 0 0;", -8, 5);
        work("give: H 0 and 1", "give 0 0 1;give 1 1 0;", 2, -1);
        work("give: H 2", "give 0 2 0;", -8, 7);
        work("give: Q 2", "give 0 0 2;", -8, 9);
        work("throw: P 2", "throw 2 0;", -8, 6);
        work("throw: X 0 and 7", "throw 0 0;throw 1 7;", 2, -1);
        work("throw: X 8", "throw 0 8;", -8, 8);
        work("dig: X 0", "dig 0;", 1, -1);
        work("dig: X 7", "dig 7;", 0, -1);
        work("dig: X 8", "dig 8;", -8, 4);
        work("again: 0", "again 0 [year;];", 0, -1);
        work("again: 20", "again 20 [year;];", 20, -1);
        work("again: 21", "again 21 [year;];", -8, 6);
        work("again without steps", "again 20 [];", 0, -1);
        work("again with blanks alone", "again 20 [  ];", 0, -1);
        work("again without a number", "again [];", -9, 6);
        work("again, round", "again 1 (year;);", -9, 8);
        work("a ] more", "year;];", -9, 5);
        work("a ; alone", ";", -9, 0);
        work("a ; in again", "again 2 [;];", -9, 9);
        work("no ; behind ]", "again 1 [year;] year;", -9, 16);
        work("no ; ahead of ]", "again 1 [year];", -9, 13);
        work("a fault in an again of 0", "again 0 [pay 2;];", -8, 13);
        work("a fault behind 29 good ones: none is done", "dig 0;".repeat(9) + "dig 8;", -8, 58);
        PotHill x = new PotHill();
        Check.fault(x, "no PEOPLE, no POTS", Check.work(x, "give 0 0 0;"), -8, 5);
        Check.fault(x, "COLUMNS are there", Check.work(x, "dig 0;"), 0, -1);
    }

    private static void workOpen() {
        String open = "again 1[";
        work("six open", open.repeat(6) + "year;" + "];".repeat(6), 1, -1);
        work("a 7th", open.repeat(6) + " " + open, -7, 49);
        work("a 7th without its number", open.repeat(6) + "again", -7, 48);
        work("closed ones do not count", open.repeat(6) + "];".repeat(6) + open.repeat(6) + "];".repeat(6), 0, -1);
        work("one closed, one more", open.repeat(6) + "];" + open + "];".repeat(6), 0, -1);
        work("in an again of 0, too", "again 0[" + open.repeat(6), -7, 48);
    }

    /** "A THUMB is a text of up to 60 bytes"; promise 6 "(n to 60)". */
    private static void thumbBytes() {
        PotHill x = new PotHill();
        Check.due("60", Check.thumb(x, " ".repeat(56) + "5 9;"), 1);
        Check.fault(x, "the ; would be the 61st", Check.thumb(x, " ".repeat(57) + "5 9"), -9, 60);
        Check.put(x, "0 1;" + " ".repeat(76));
        Check.none("61", () -> x.thumb(61));
        Check.due("it stays", x.count(1), 80);
        Check.due("the lines, too", x.told(8), 1);
        Check.due("60 of 80", x.thumb(60), 1);
    }

    /** "6 lines at most, no I twice: PLACE I (0 to 5) felt K deep (0 to 9)". */
    private static void thumbLines() {
        thumb("none", "", 0, -1);
        thumb("6 lines", "0 0;1 9;2 0;3 9;4 0;5 9;", 6, -1);
        thumb("I 6", "6 0;", -8, 0);
        thumb("K 10", "5 10;", -8, 2);
        thumb("I twice, at once", "3 1;3 1;", -8, 4);
        thumb("I twice, the last", "0 1;1 1;2 1;3 1;4 1; 0 2;", -8, 21);
        thumb("I twice, by 0 ahead", "3 1;03 1;", -8, 4);
        // A 7th line is always of an I twice or above 5, too: of one the least.
        thumb("a 7th line", "0 0;1 9;2 0;3 9;4 0;5 9;5 9;", -8, 24);
        thumb("a 7th line, I 6", "0 0;1 9;2 0;3 9;4 0;5 9;6 9;", -8, 24);
        thumb("a 7th, no number", "0 0;1 9;2 0;3 9;4 0;5 9;;", -9, 24);
        thumb("no K", "0;", -9, 1);
        thumb("a third number", "0 1 2;", -9, 4);
        thumb("digits stand together", "01;", -9, 2);
        PotHill x = Check.on(TWO + "pot 0 1 1 1 9 1 1 end;");
        Check.thumb(x, "0 9;");
        Check.due("K 9 is felt", x.fits(), 3);
        Check.fault(x, "I twice", Check.thumb(x, "1 5;1 1;"), -8, 4);
        Check.due("all stays", x.fits(), 3);
    }

    /** "Numbers: digits, as many as stand there; WORDS: small letters, as many as stand there". */
    private static void numbersAndWords() {
        hill("2 digits", "heap 0 12;", -8, 7);
        hill("12 is one number", "heap 12;", -8, 5);
        hill("zeros, as many as stand there", "heap 000000000000 00000000000009;", 0, -1);
        hill("a number too long for 32 bits", "chips 4294967297;", -8, 6);
        hill("and for 64", "chips 18446744073709551617;", -8, 6);
        hill("letters behind a number are a word of their own", "person 1x;", -9, 8);
        hill("digits behind a word are a number of their own", "chips20;", 0, -1);
        hill("a word in capitals", "CHIPS 1;", -9, 0);
        hill("a capital behind", "chipS 1;", -9, 0);
        hill("two words", "chip s 1;", -9, 0);
        hill("one word", "chipssteep 1;", -9, 0);
        hill("the sign below a", "chips`1;", -9, 5);
        hill("the sign behind z", "chips{1;", -9, 5);
        hill("the letter z", "chipsz1;", -9, 0);
        hill("the sign below 0", "chips /;", -9, 6);
        hill("the sign behind 9", "chips :;", -9, 6);
        hill("9 and the sign behind it", "chips 9:;", -9, 7);
        hill("a sign ahead of a number", "chips +1;", -9, 6);
    }

    /** "blanks (32) may stand ahead of all these, and at the end". */
    private static void blanks() {
        hill("ahead of all", "  person  5  ;  person  5  ;  pot  0  1  5  5  5  5  5  end  ;  heap  1  1  ;  ", 1, -1);
        hill("none but where words or numbers would run together",
            "person5;person5;pot0 1 5 5 5 5 5end;heap1 1;chips1;steep1;", 1, -1);
        law("ahead of all", "  least  [  1  ,  2  ]  *  (  3  +  depth  )  -  most  [  1  ,  place  ]  /  9  ", 1, -1);
        law("none", "least[1,2]*(3+depth)-most[1,place]/9", 1, -1);
        work("ahead of all", "  again  2  [  give  0  0  1  ;  year  ;  ]  ;  throw  0  1  ;  ", 4, -1);
        work("none", "again2[give0 0 1;year;];throw0 1;", 4, -1);
        thumb("ahead of all", "  1  2  ;  2  3  ;  ", 2, -1);
        hill("31 is none", "chips" + (char) 31 + "1;", -9, 5);
        hill("33 is none", "chips" + (char) 33 + "1;", -9, 5);
        hill("a tab is none", "\tchips 1;", -9, 0);
        hill("a line's end is none", "chips 1;\n", -9, 8);
        hill("160 is none", "chips" + (char) 160 + "1;", -9, 5);
    }

    /** "(at the length, if the text ends too early)". */
    private static void textsThatEndTooEarly() {
        String whole = TWO + POT;
        // Behind each word and number of the POT, and behind blanks at the end.
        int[] cuts = {21, 23, 25, 27, 29, 31, 33, 35, 39};
        for (int cut : cuts) {
            hill("cut", whole.substring(0, cut), -9, cut);
            hill("cut", whole.substring(0, cut) + "  ", -9, cut + 2);
        }
        hill("cut in a word", whole.substring(0, 38), -9, 36);
        hill("cut behind a ;", whole.substring(0, 18), 0, -1);
        String[] laws = {"(", "(1", "least", "least[", "least[1", "least[1,", "least[1,2", "most[1,2]+", "1*"};
        for (String text : laws) {
            law("cut", text, -9, text.length());
            law("cut", text + " ", -9, text.length() + 1);
        }
        String[] works = {"pay", "pay 0", "give", "give 0", "give 0 1", "give 0 1 0", "throw", "throw 0", "throw 0 1",
            "dig", "dig 0", "year", "again", "again 1", "again 1 [", "again 1 [year", "again 1 [year;", "again 1 [year;]"};
        for (String text : works) {
            work("cut", text, -9, text.length());
            work("cut", text + " ", -9, text.length() + 1);
        }
        String[] thumbs = {"1", "1 2", "1 2;3", "1 2;3 4"};
        for (String text : thumbs) {
            thumb("cut", text, -9, text.length());
            thumb("cut", text + " ", -9, text.length() + 1);
        }
        PotHill x = new PotHill();
        Check.put(x, "chips 21;");
        Check.fault(x, "the length is n, whatever stands behind", x.hill(6), -9, 6);
        Check.put(x, "chips 21;");
        Check.fault(x, "n cuts a number", x.hill(7), -9, 7);
    }

    /** "FAULTS, the first from the left, at its first byte". */
    private static void firstFromTheLeft() {
        hill("2 ahead of 1", "chips 21;x", -8, 6);
        hill("1 ahead of 2", "x;chips 21;", -9, 0);
        hill("2 ahead of 4", TWO + "pot 0 1 0 1 end;", -8, 26);
        hill("4 ahead of 1", TWO + "pot 0 1 1 1 end", -6, 30);
        hill("2 ahead of 3", TWO + "pot 0 1 1 61 1 1 1 1 1 1 1 end;", -8, 28);
        hill("3 ahead of 2", TWO + "pot 0 1 1 1 1 1 1 1 1 1 1 10 end;", -7, 42);
        hill("at the first byte of a number", "chips 0000000000021;", -8, 6);
        law("2 ahead of 1", "1000 + ", -8, 0);
        law("3 ahead of 2", "((((((( 1000", -7, 6);
        work("2 ahead of 1", "dig 8;years", -8, 4);
        work("1 ahead of 2", "years;dig 8;", -9, 0);
        thumb("2 ahead of 1", "0 10;x", -8, 2);
    }

    /** "of one the least": two FAULTS at one byte. */
    private static void ofOneTheLeast() {
        String seventh = TWO + "pot 0 1 1 1 1 1 1 1 1 1 ";
        hill("a 7th PLACE, 10 deep: 2, not 3", seventh + "10 end;", -8, 42);
        hill("a 7th PLACE, 9 deep", seventh + "9 end;", -7, 42);
        hill("a 61st CLAUSE that is none: 1, not 3", "steep 1;".repeat(60) + "steeper 1;", -9, 480);
        hill("a 61st, ;", "steep 1;".repeat(60) + ";", -9, 480);
        law("a 7th word that is none: 1, not 3", "((((((leas[", -9, 6);
        work("a 7th word that is none", "again 1[".repeat(6) + "agai", -9, 48);
        thumb("a 7th line: 2, not 3", "0 0;1 0;2 0;3 0;4 0;5 0;0 0;", -8, 24);
    }

    /** Promise 3: "n is not 0 to the TAPE's bytes (it stays)"; 4 to 6: "likewise". */
    private static void callsOfTexts() {
        PotHill x = new PotHill();
        Check.due("0 of an empty TAPE", x.hill(0), 0);
        Check.none("1 of it", () -> x.hill(1));
        Check.none("1 of it", () -> x.law(1));
        Check.none("1 of it", () -> x.work(1));
        Check.none("1 of it", () -> x.thumb(1));
        Check.put(x, "chips 1;");
        Check.none("21 of 20", () -> x.hill(21));
        Check.none("21 of 20", () -> x.law(21));
        Check.none("21 of 20", () -> x.work(21));
        Check.none("21 of 20", () -> x.thumb(21));
        Check.none("-1", () -> x.hill(-1));
        Check.none("the least number", () -> x.law(Integer.MIN_VALUE));
        Check.none("the greatest", () -> x.work(Integer.MAX_VALUE));
        Check.due("it stays", x.count(1), 20);
        Check.fault(x, "all 20", x.hill(20), -9, 8);
        Check.due("empty then, behind a FAULT, too", x.count(1), 0);
        Check.put(x, "chips 1;");
        Check.due("0 of 20", x.law(0), -9);
        Check.due("empty then", x.count(1), 0);
        Check.put(x, "chips 1;");
        Check.due("0 of 20", x.work(0), 0);
        Check.due("empty then", x.count(1), 0);
        Check.put(x, "chips 1;");
        Check.due("0 of 20", x.thumb(0), 0);
        Check.due("empty then", x.count(1), 0);
        Check.put(x, "chips 1;");
        Check.due("the first 8", x.hill(8), 0);
        Check.due("empty then", x.count(1), 0);
        Check.due("eleven refused", x.status(1), 11);
    }

    /** Promise 7: "The place of the FAULT of the latest text; NONE without". */
    private static void faults() {
        PotHill x = new PotHill();
        Check.due("no text yet", x.fault(), -1);
        Check.law(x, "1 + x");
        Check.due("the LAW's", x.fault(), 4);
        Check.thumb(x, "1 x");
        Check.due("the THUMB's", x.fault(), 2);
        Check.work(x, "x");
        Check.due("the WORK's", x.fault(), 0);
        Check.hill(x, "chips x");
        Check.due("the HILL's", x.fault(), 6);
        Check.none("a refused call has no text", () -> x.law(-1));
        x.undo();
        x.restore();
        x.image();
        x.feed(0, 0, 0, 0, 0);
        Check.due("it is still the HILL's", x.fault(), 6);
        x.work(0);
        Check.due("NONE: a good WORK", x.fault(), -1);
        Check.law(x, "x");
        Check.law(x, "1");
        Check.due("NONE: a good LAW", x.fault(), -1);
        Check.law(x, "x");
        Check.thumb(x, "1 1;");
        Check.due("NONE: a good THUMB", x.fault(), -1);
        Check.law(x, "x");
        Check.hill(x, "chips 1;");
        Check.due("NONE: a good HILL", x.fault(), -1);
    }
}
