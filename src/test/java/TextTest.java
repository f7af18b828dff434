/** Promises 1 to 7: a new object, the tape, the four texts and their faults. */
public final class TextTest {
    private static final String TWO = "person 1;person 1;";
    private static final String POT = "pot 0 1 1 1 1 1 1 end;";

    public static void main(String[] args) {
        newObject();
        tape();
        hillTexts();
        hillFaults();
        hillLimits();
        allStaysBehindFault();
        hillStartsAnew();
        lawTexts();
        lawFaults();
        workTexts();
        workFaults();
        thumbTexts();
        faultOfLatest();
        Check.end("TextTest");
    }

    private static void newObject() {
        PotHill x = new PotHill();
        for (int what = 0; what <= 9; what++) {
            Check.due("new: told(" + what + ")", x.told(what), 0);
        }
        Check.due("new: fault()", x.fault(), -1);
        Check.due("new: undo()", x.undo(), -1);
        Check.due("new: restore()", x.restore(), -1);
        Check.due("new: would", x.would(9, 0, 0, 0, 0, 0), 0);
        Check.due("new: safe()", x.safe(), 255);
        Check.due("new: tell()", x.tell(), 1);
        Check.due("new: feel(0)", x.feel(0), 0);
        Check.noSuch("new: has(0)", () -> x.has(0));
        Check.noSuch("new: pot(0, 0)", () -> x.pot(0, 0));
        for (int what = -1; what <= 3; what++) {
            Check.due("new: count(" + what + ")", x.count(what), what < 0 || what > 2 ? -1 : 0);
        }
    }

    private static void tape() {
        PotHill x = new PotHill();
        for (int k = 1; k <= 30; k++) {
            Check.due("feed no. " + k, x.feed(0, 0, 0, 0, 0), 20 * k);
        }
        Check.due("feed no. 31", x.feed(0, 0, 0, 0, 0), -1);
        Check.due("count(1)", x.count(1), 600);
        Check.none("hill(601)", () -> x.hill(601));
        Check.none("hill(-1)", () -> x.hill(-1));
        Check.none("law(151)", () -> x.law(151));
        Check.none("law(-1)", () -> x.law(-1));
        Check.none("work(151)", () -> x.work(151));
        Check.none("work(-1)", () -> x.work(-1));
        Check.none("thumb(61)", () -> x.thumb(61));
        Check.none("thumb(-1)", () -> x.thumb(-1));
        Check.due("the tape stays", x.count(1), 600);
        Check.due("fault() stays", x.fault(), -1);
        Check.due("a zero byte can't stand there", x.hill(600), -9);
        Check.due("at", x.fault(), 0);
        Check.due("the tape is empty then", x.count(1), 0);
        Check.none("law(1) of an empty tape", () -> x.law(1));
        Check.due("hill(0)", x.hill(0), 0);
        // The highest byte comes first: "chip" "s 1 " ";...".
        x.feed(0x63686970, 0x73203120, 0x3b202020, 0x20202020, 0x20202020);
        Check.due("'chips 1 ;' with blanks at the end", x.hill(20), 0);
    }

    private static void hillTexts() {
        PotHill x = new PotHill();
        Check.due("all clauses", Check.hill(x, TWO + POT + "heap 0 3;chips 4;steep 5;"), 1);
        Check.due("people", x.told(0), 2);
        Check.due("no blanks", Check.hill(x, "person1;person2;pot0 1 40 60 9 0 9end;"), 1);
        Check.due("N", x.pot(0, 0), 40);
        Check.due("Y", x.pot(0, 1), 60);
        Check.due("many blanks", Check.hill(x, "  person  007 ; heap 1 2 ; heap 1 5;  "), 0);
        Check.due("zeros ahead of a number", x.has(0), 7);
        Check.due("the last heap counts", x.height(1), 5);
        Check.due("the last chips counts", Check.hill(x, TWO + "pot 0 1 1 1 0 0 1 end;chips 1;chips 0;"), 1);
        Check.law(x, "half");
        Check.due("with chips 0 it lasts one year", x.lasts(0), 1);
        x = Check.on(TWO + "pot 0 1 1 1 9 9 1 end;");
        Check.law(x, "half");
        Check.due("without: chips 2, so that 3 apart is the end", x.lasts(0), 1);
        x = Check.on("heap 0 2;");
        Check.due("without: steep 2", x.tossed(0, 0), 1);
        x = Check.on("heap 0 2;steep 9;steep 3;");
        Check.due("the last steep counts", x.tossed(0, 0), 0);
        Check.due("3 and 1", Check.on("heap 0 3;steep 3;").tossed(0, 0), 1);
    }

    private static void hillFault(String text, int want, int place) {
        PotHill x = new PotHill();
        Check.fault(x, text, Check.hill(x, text), want, place);
    }

    private static void hillFaults() {
        hillFault("x", -9, 0);
        hillFault(" persons 1;", -9, 1);
        hillFault("Person 1;", -9, 0);
        hillFault("personz 1;", -9, 0);
        hillFault("xerson 1;", -9, 0);
        hillFault("person", -9, 6);
        hillFault("person  ", -9, 8);
        hillFault("person ;", -9, 7);
        hillFault("person -1;", -9, 7);
        hillFault("person 1", -9, 8);
        hillFault("person 1 2;", -9, 9);
        hillFault("person 1;;", -9, 9);
        hillFault("person 100;", -8, 7);
        hillFault("person 4294967296;", -8, 7);
        hillFault("person 99999999999999999999999;", -8, 7);
        hillFault("person\t1;", -9, 6);
        hillFault("person " + (char) 233 + ";", -9, 7);
        hillFault("person 1;pot 0 1 1 1 1 1 1 end;", -8, 15);
        hillFault("person 1;pot 1 0 1 1 1 1 1 end;", -8, 13);
        hillFault(TWO + "pot 1 1 1 1 1 1 1 end;", -8, 24);
        hillFault(TWO + "pot 0 2 1 1 1 1 1 end;", -8, 24);
        hillFault(TWO + "pot 0 1 0 1 1 1 1 end;", -8, 26);
        hillFault(TWO + "pot 0 1 41 1 1 1 1 end;", -8, 26);
        hillFault(TWO + "pot 0 1 1 61 1 1 1 end;", -8, 28);
        hillFault(TWO + "pot 0 1 1 1 1 10 1 end;", -8, 32);
        hillFault(TWO + "pot 0 1 1 1 end;", -6, 30);
        hillFault(TWO + "pot 0 1 1 1 1 1  end;", -6, 35);
        hillFault(TWO + "pot 0 1 1 end;", -9, 28);
        hillFault(TWO + "pot 0 1 1 1 1 1 1 ends;", -9, 36);
        hillFault(TWO + "pot 0 1 1 1 1 1 1 ;", -9, 36);
        hillFault(TWO + "pot 0 1 1 1 1 1 1", -9, 35);
        hillFault(TWO + "pot 0 1 1 1 1 1 1 end", -9, 39);
        hillFault(TWO + "pot 0 1 1 1 1 2 3 4 5 6 7 end;", -7, 42);
        hillFault(TWO + "pot 0 1 1 1 1 2 3 4 5 6 10 end;", -8, 42);
        hillFault(TWO + "pot 0 1 1 1 1 2 3 4 5 6 x;", -9, 42);
        hillFault("heap 8 0;", -8, 5);
        hillFault("heap 7 10;", -8, 7);
        hillFault("chips 21;", -8, 6);
        hillFault("steep 0;", -8, 6);
        hillFault("steep 10;", -8, 6);
    }

    private static void hillLimits() {
        String people = "person 1;".repeat(8);
        Check.due("8 people", Check.hill(new PotHill(), people), 0);
        hillFault(people + " person 1;", -7, 73);
        hillFault(people + "person", -7, 72);
        String pots = TWO + POT.repeat(8);
        Check.due("8 pots", Check.hill(new PotHill(), pots), 8);
        hillFault(pots + "pot;", -7, 194);
        String clauses = "chips 1;".repeat(60);
        Check.due("60 clauses", Check.hill(new PotHill(), clauses + "  "), 0);
        hillFault(clauses + "steep 0;", -7, 480);
        hillFault(clauses + "person", -7, 480);
        // Of two faults at one byte the lesser number counts.
        hillFault(clauses + "steeps 1;", -9, 480);
        hillFault(clauses + "1", -9, 480);
    }

    private static void allStaysBehindFault() {
        PotHill x = Check.on(TWO + POT + "heap 2 3;");
        Check.law(x, "1");
        Check.thumb(x, "0 1;");
        Check.work(x, "throw 0 2;pay 0;pay 0;");
        x.image();
        Check.due("a faulty hill", Check.hill(x, TWO + POT + POT + "heap 2 10;"), -8);
        Check.due("pots stay", x.told(1), 1);
        Check.due("PAID stays", x.told(4), 1);
        Check.due("REFUSED stays", x.told(9), 1);
        Check.due("lines stay", x.told(8), 1);
        Check.due("law stays", x.would(5, 0, 0, 0, 0, 0), 1);
        Check.due("images stay", x.count(0), 1);
        Check.due("works stay", x.count(2), 1);
        Check.due("a faulty law", Check.law(x, "2 +"), -9);
        Check.due("law stays", x.would(5, 0, 0, 0, 0, 0), 1);
        Check.due("a faulty thumb", Check.thumb(x, "1 1;2 1;3 x"), -9);
        Check.due("lines stay", x.told(8), 1);
        Check.due("a faulty work", Check.work(x, "year;year"), -9);
        Check.due("none is done", x.told(2), 0);
        Check.due("REFUSED stays behind it", x.told(9), 1);
        Check.due("works stay behind it", x.count(2), 1);
    }

    private static void hillStartsAnew() {
        PotHill x = Check.on(TWO + POT + "heap 2 3;");
        Check.law(x, "1");
        Check.thumb(x, "0 1;");
        Check.work(x, "throw 0 2;year;pay 0;pay 0;");
        x.image();
        Check.due("a new hill", Check.hill(x, TWO + POT + POT), 2);
        Check.due("YEAR 0", x.told(2), 0);
        Check.due("all OPEN", x.told(3), 2);
        Check.due("no shards", x.told(7), 0);
        Check.due("no THUMB", x.told(8), 0);
        Check.due("none REFUSED", x.told(9), 0);
        Check.due("no LAW", x.would(5, 0, 0, 0, 0, 0), 0);
        Check.due("no IMAGES", x.restore(), -1);
        Check.due("nothing to undo", x.undo(), -1);
        Check.due("third shard not thrown", x.pot(0, 7), -1);
        Check.due("depths as told", x.depth(0, 1, 2), 1);
        Check.due("count(0)", x.count(0), 0);
        Check.due("the first IMAGE", x.image(), 1);
        nothingIsLeftOfOlderHills();
    }

    private static void nothingIsLeftOfOlderHills() {
        PotHill x = new PotHill();
        for (int k = 0; k < 3; k++) {
            Check.hill(x, TWO + "pot 0 1 1 1 1 1 1 9 9 9 end;heap 3 9;chips 20;steep 9;");
            Check.law(x, "age");
            Check.work(x, "year;year;");
        }
        for (int k = 0; k < 3; k++) {
            Check.due("pots", Check.hill(x, TWO + "pot 0 1 1 1 4 4 4 end;pot 0 1 1 1 4 4 4 0 0 4 end;chips 1;"), 2);
            Check.due("told apart by PLACE 5, which pot 0 has not", x.tell(), 6);
            Check.law(x, "age");
            Check.work(x, "year;");
            Check.due("held for 0 YEARS", x.depth(0, 0, 0), 4);
            Check.due("pots", Check.hill(x, TWO + "pot 0 1 1 1 4 4 4 end;heap 0 2;"), 1);
            Check.due("only told shards", x.told(7), 2);
            Check.due("steep 2", x.tossed(0, 0), 1);
            Check.law(x, "half");
            Check.due("chips 2", x.lasts(0), 1);
        }
    }

    private static void wears(String law, int want) {
        PotHill x = new PotHill();
        Check.due("law '" + law + "'", Check.law(x, law), 1);
        // depth 9, place 5, half 1, year 100, age 30, due 1
        Check.due("worn by '" + law + "'", x.would(9, 5, 1, 100, 30, 1), want);
    }

    private static void lawTexts() {
        wears("3", 3);
        wears("999", 9);
        wears("depth", 9);
        wears("place", 5);
        wears("half", 1);
        wears("year / 25", 4);
        wears("age - 23", 7);
        wears("due", 1);
        wears(" 7 - 2 - 1 ", 4);
        wears("2+2*3", 8);
        wears("(2+2)*2", 8);
        wears("100/7/2", 7);
        wears("7*5/6", 5);
        wears("9/6*5", 5);
        wears("least[4,6]", 4);
        wears("most [ 4 , 6 ]", 6);
        wears("most[least[9,3],least[8,5]]", 5);
        wears("3 / 0 + 2", 2);
        wears("0 - 5", 0);
        wears("0-7/2+8", 5);
        wears("(0-7)/2+8", 5);
        wears("256*256*256*256+6", 6);
        wears("0-256*256*256*128-1", 9);
        // The least number by -1 wraps to itself.
        wears("256*256*256*128/(0-1)/256/256/256+130", 2);
        wears("((((((4))))))", 4);
        wears("least[((((5)))),most[1,(6)]]", 5);
    }

    private static void lawFault(String text, int want, int place) {
        PotHill x = new PotHill();
        Check.fault(x, text, Check.law(x, text), want, place);
    }

    private static void lawFaults() {
        lawFault("", -9, 0);
        lawFault("   ", -9, 3);
        lawFault("deep", -9, 0);
        lawFault("depthplace", -9, 0);
        lawFault("1 2", -9, 2);
        lawFault("1;", -9, 1);
        lawFault("1 +", -9, 3);
        lawFault("1 + + 1", -9, 4);
        lawFault("-1", -9, 0);
        lawFault("1000", -8, 0);
        lawFault("1 + 12345678901234567890", -8, 4);
        lawFault("least 1", -9, 6);
        lawFault("least[1]", -9, 7);
        lawFault("least[1,2", -9, 9);
        lawFault("most[1,2)", -9, 8);
        lawFault("(1", -9, 2);
        lawFault("(1]", -9, 2);
        lawFault("()", -9, 1);
        lawFault("1)", -9, 1);
        lawFault("(((((( (1", -7, 7);
        lawFault("least[least[least[most[most[most[least[", -7, 33);
        lawFault("((((((least", -7, 6);
        lawFault("most[1,((((((1))))))]", -7, 12);
        lawFault("most[1,(((((1)))))", -9, 18);
        lawFault("((((((lease", -9, 6);
        Check.due("closed ones do not count", Check.law(new PotHill(), "(((1)))+(((1)))+((((((1))))))"), 1);
    }

    private static void workTexts() {
        PotHill x = Check.on(TWO + POT + "heap 0 9;steep 9;");
        Check.due("empty", Check.work(x, ""), 0);
        Check.due("blanks", Check.work(x, "   "), 0);
        Check.due("both are works", x.count(2), 2);
        Check.due("agains are not counted", Check.work(x, " again 2 [ dig0;again 3[dig 0 ; ] ; ] ;"), 8);
        Check.due("eight dug", x.height(0), 1);
        Check.due("an again of 0", Check.work(x, "again 0 [year;];again 20 [];"), 0);
        Check.due("199 years and an again", Check.work(x, "again 20 [again 20 [year;];];"), 189);
        Check.due("the year", x.told(2), 189);
        Check.due("then 11, and 9 that are refused", Check.work(x, "again 20 [year;];"), 11);
        Check.due("the year stops", x.told(2), 200);
        Check.due("refused", x.told(9), 9);
        String sixDeep = "again 1[again 1[again 1[again 1[again 1[again 1[dig 0;];];];];];];";
        Check.due("six agains open", Check.work(x, sixDeep), 1);
        x = Check.on(TWO + POT);
        Check.due("the 200th is begun", Check.work(x, "again 19[again 9[year;];];again 8[year;];throw 0 0;"), 171 + 8);
        Check.due("and what is behind it is left out", x.pot(0, 7), -1);
        x = Check.on(TWO + POT);
        Check.due("199 are begun", Check.work(x, "again 19[again 9[year;];];again 7[year;];throw 0 0;"), 171 + 7 + 1);
        Check.due("and the 200th is the throw", x.pot(0, 7), 0);
    }

    private static void workFault(String text, int want, int place) {
        PotHill x = Check.on(TWO + POT + "heap 0 9;");
        Check.fault(x, text, Check.work(x, text), want, place);
        Check.due("no work", x.count(2), 0);
    }

    private static void workFaults() {
        workFault("years;", -9, 0);
        workFault("year", -9, 4);
        workFault("year 1;", -9, 5);
        workFault("pay;", -9, 3);
        workFault("pay 1;", -8, 4);
        workFault("pay 0 0;", -9, 6);
        workFault("give 1 0 0;", -8, 5);
        workFault("give 0 2 0;", -8, 7);
        workFault("give 0 0 2;", -8, 9);
        workFault("throw 1 0;", -8, 6);
        workFault("throw 0 8;", -8, 8);
        workFault("dig 8;", -8, 4);
        workFault("dig 0;]", -9, 6);
        workFault("again 21 [];", -8, 6);
        workFault("again 2 year;", -9, 8);
        workFault("again 2 [year;", -9, 14);
        workFault("again 2 [year];", -9, 13);
        workFault("again 2 [year;]", -9, 15);
        String open = "again 1[";
        workFault(open.repeat(6) + " again", -7, 49);
        workFault(open.repeat(6) + "agains", -9, 48);
        PotHill x = new PotHill();
        Check.due("no pots at all", Check.work(x, "pay 0;"), -8);
    }

    private static void thumbTexts() {
        PotHill x = new PotHill();
        Check.due("six lines", Check.thumb(x, "5 0;4 1; 3 9;2 2 ;1 3;0 4;"), 6);
        Check.due("told(8)", x.told(8), 6);
        Check.due("none", Check.thumb(x, ""), 0);
        Check.due("told(8)", x.told(8), 0);
        Check.fault(x, "6 1;", Check.thumb(x, "6 1;"), -8, 0);
        Check.fault(x, "0 10;", Check.thumb(x, "0 10;"), -8, 2);
        Check.fault(x, "0 1;0 1;", Check.thumb(x, "0 1;0 1;"), -8, 4);
        Check.fault(x, "0;", Check.thumb(x, "0;"), -9, 1);
        Check.fault(x, "0 1", Check.thumb(x, "0 1"), -9, 3);
        Check.fault(x, "a 1;", Check.thumb(x, "a 1;"), -9, 0);
        // A 7th line is of a PLACE twice, too, and 2 is less than 3.
        String seven = "0 1;1 1;2 1;3 1;4 1;5 1;0 1;";
        Check.fault(x, seven, Check.thumb(x, seven), -8, 24);
        Check.due("all stays", x.told(8), 0);
    }

    private static void faultOfLatest() {
        PotHill x = new PotHill();
        Check.hill(x, "x");
        Check.due("a fault", x.fault(), 0);
        Check.none("no text is read", () -> x.hill(21));
        Check.due("so it stays", x.fault(), 0);
        Check.law(x, "1");
        Check.due("gone behind a good text", x.fault(), -1);
        Check.due("16 works", manyWorks(x, 16), 0);
        Check.law(x, "+");
        Check.due("a fault of the law", x.fault(), 0);
        Check.put(x, "nonsense");
        Check.none("151 bytes, ahead of that", () -> x.work(151));
        Check.due("the 17th work is not read", x.work(8), -20);
        Check.due("there is no fault", x.fault(), -1);
        Check.due("the tape is empty", x.count(1), 0);
        Check.due("undone", x.undo(), 15);
        Check.due("one more goes", Check.work(x, ""), 0);
        Check.due("sixteen again", x.count(2), 16);
    }

    private static int manyWorks(PotHill x, int many) {
        int sum = 0;
        for (int k = 0; k < many; k++) {
            sum += Check.work(x, "");
        }
        return sum;
    }
}
