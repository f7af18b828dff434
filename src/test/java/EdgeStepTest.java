/**
 * The edges that "==== 2." of the terms and promises 3, 5, 8 and 9 name, a sentence at a time. The quoted words are the
 * document's.
 */
public final class EdgeStepTest {
    private static final String THREE = "person 10;person 20;person 5;";

    public static void main(String[] args) {
        atFirst();
        meeting();
        inOrder();
        twoHundredSteps();
        pays();
        gives();
        throwsOnce();
        slidesByMoreThanSteep();
        slidesTheFirst();
        slidesToTheLower();
        digs();
        yearsUpTo200();
        wearsByWhatWasAhead();
        wearsOpenOnesAlone();
        ages();
        dueBehindY();
        voids();
        dueOnes();
        sixteenWorks();
        undoes();
        refusedByTheLatest();
        startsAnew();
        Check.end("EdgeStepTest");
    }

    private static void columns(String why, PotHill x, int... want) {
        for (int column = 0; column < 8; column++) {
            Check.due(why + ": height(" + column + ")", x.height(column), want[column]);
        }
    }

    private static void work(PotHill x, String text, int done, int refused) {
        Check.due(text + " done", Check.work(x, text), done);
        Check.due(text + " REFUSED", x.told(9), refused);
    }

    /** "It is YEAR 0 at first; of each POT C has half 0, D half 1 .. COLUMNS as told (whatever slides at first)". */
    private static void atFirst() {
        PotHill x = Check.on(THREE + "pot 2 1 4 0 9 0 4 end;pot 0 2 7 0 1 2 3 4 end;heap 0 9;heap 7 9;heap 3 5;steep 1;");
        Check.due("YEAR 0", x.told(2), 0);
        Check.due("C has half 0", x.pot(0, 4), 2);
        Check.due("D has half 1", x.pot(0, 5), 1);
        Check.due("C of the second", x.pot(1, 4), 0);
        Check.due("D of the second", x.pot(1, 5), 2);
        for (int half = 0; half < 2; half++) {
            Check.due("DEPTHS as told", x.depth(0, half, 0), 9);
            Check.due("DEPTHS as told", x.depth(0, half, 1), 0);
            Check.due("DEPTHS as told", x.depth(1, half, 3), 4);
        }
        Check.due("all are OPEN", x.told(3), 2);
        Check.due("no third shard is thrown", x.pot(0, 7), -1);
        Check.due("no third shard is thrown", x.pot(1, 7), -1);
        columns("whatever slides", x, 9, 0, 0, 5, 0, 0, 0, 9);
        Check.law(x, "1 - age");
        Check.work(x, "year;");
        Check.due("for 0 YEARS: half 0", x.depth(0, 0, 0), 8);
        Check.due("for 0 YEARS: half 1", x.depth(0, 1, 0), 8);
        columns("a year slides nothing", x, 9, 0, 0, 5, 0, 0, 0, 9);
    }

    /** "Halves MEET, if their PLACES are apart by no more than T in all". */
    private static void meeting() {
        for (int chips = 2; chips <= 4; chips++) {
            PotHill x = Check.on(THREE + "pot 0 1 4 0 5 5 5 end;chips " + chips + ";");
            Check.law(x, "half");
            Check.work(x, "year;");
            Check.due("3 apart", x.pot(0, 6), 3);
            Check.due("3 apart, by T " + chips, x.meets(0) ? 1 : 0, chips >= 3 ? 1 : 0);
        }
        PotHill x = Check.on(THREE + "pot 0 1 4 0 5 5 5 end;chips 0;");
        Check.due("0 apart by T 0", x.meets(0) ? 1 : 0, 1);
        Check.law(x, "half * (1 - place)");
        Check.work(x, "year;");
        Check.due("1 apart by T 0", x.meets(0) ? 1 : 0, 0);
        PotHill y = Check.on(THREE + "pot 0 1 4 0 9 9 9 9 9 9 end;chips 20;");
        Check.law(y, "half * (4 - place / 5) + (1 - half) * (place / 5)");
        Check.work(y, "year;");
        Check.due("both ways in all: 20 and 2", y.pot(0, 6), 4 * 5 + 2);
        Check.due("22 by T 20", y.meets(0) ? 1 : 0, 0);
    }

    /** "STEPS are done in order; one that can't be done is REFUSED, and changes nothing". */
    private static void inOrder() {
        PotHill x = Check.on("person 0;person 7;person 0;pot 1 0 7 0 5 5 5 end;pot 0 1 7 0 5 5 5 end;");
        work(x, "pay 0;pay 1;pay 0;", 2, 1);
        Check.due("0 got 7 and paid it", x.has(0), 0);
        Check.due("1 has it back", x.has(1), 7);
        PotHill y = Check.on("person 0;person 7;person 0;pot 1 0 7 0 5 5 5 end;heap 1 9;steep 1;");
        work(y, "pay 0;give 0 0 1;give 0 1 0;dig 0;", 0, 4);
        Check.due("nothing changes", y.has(0), 0);
        Check.due("nothing changes", y.has(1), 7);
        Check.due("nothing changes", y.told(3), 1);
        columns("nothing slides", y, 0, 9, 0, 0, 0, 0, 0, 0);
    }

    /** "200 STEPS at most are begun by one WORK (an again, too, each time it is come to; REFUSED ones, too)". */
    private static void twoHundredSteps() {
        String hill = THREE + "pot 0 1 4 0 5 5 5 end;";
        // 1 + 19 * (1 + 9) = 191 begun, then 9 more.
        PotHill x = Check.on(hill);
        work(x, "again 19 [again 9 [year;];];again 7 [year;];year;", 171 + 7 + 1, 0);
        x = Check.on(hill);
        work(x, "again 19 [again 9 [year;];];again 8 [year;];year;", 171 + 8, 0);
        x = Check.on(hill);
        work(x, "again 19 [again 9 [dig 0;];];again 7 [dig 0;];year;", 1, 171 + 7);
        x = Check.on(hill);
        work(x, "again 19 [again 9 [dig 0;];];again 8 [dig 0;];year;", 0, 171 + 8);
        x = Check.on(hill);
        work(x, "again 19 [again 9 [year;];];again 20 [again 0 [];];year;", 171, 0);
        x = Check.on(hill);
        work(x, "again 20 [again 9 [];];again 20 [again 8 [];again 0 [year;];again 0[];];year;", 1, 0);
        x = Check.on(hill);
        // An again that is come to as the 200th begins nothing more.
        work(x, "again 19 [again 9 [year;];];again 7 [year;];again 1 [year;];", 171 + 7, 0);
        x = Check.on(hill);
        work(x, "again 20 [again 20 [again 20 [again 20 [again 20 [again 20 [year;];];];];];];", 200 - 6 - 9, 0);
        work(x, "year;", 1, 0);
        Check.due("each WORK has 200 of its own", x.told(2), 200 - 6 - 9 + 1);
    }

    /** "pay: an OPEN POT whose halves MEET and whose half 1's holder has N or more: N go to half 0's holder: PAID". */
    private static void pays() {
        for (int n = 19; n <= 21; n++) {
            PotHill x = Check.on(THREE + "pot 0 1 " + n + " 0 5 5 5 end;");
            boolean can = n <= 20;
            work(x, "pay 0;", can ? 1 : 0, can ? 0 : 1);
            Check.due("half 1's holder", x.has(1), can ? 20 - n : 20);
            Check.due("half 0's holder", x.has(0), can ? 10 + n : 10);
            Check.due("PAID", x.pot(0, 3), can ? 1 : 0);
        }
        for (int chips = 2; chips <= 3; chips++) {
            PotHill x = Check.on(THREE + "pot 0 1 4 0 5 5 5 end;chips " + chips + ";");
            Check.law(x, "half");
            work(x, "year;pay 0;", chips == 3 ? 2 : 1, chips == 3 ? 0 : 1);
        }
        PotHill x = Check.on(THREE + "pot 0 1 4 0 5 5 5 end;");
        work(x, "pay 0;pay 0;", 1, 1);
        Check.due("PAID is paid but once", x.has(1), 16);
        x = Check.on(THREE + "pot 0 1 4 0 0 0 0 end;");
        work(x, "year;pay 0;", 1, 1);
        Check.due("VOID is not paid", x.has(1), 20);
        x = Check.on(THREE + "pot 0 1 4 60 5 5 5 end;");
        work(x, "pay 0;", 1, 0);
        Check.due("ahead of Y, too", x.has(0), 14);
        x = Check.on(THREE + "pot 0 1 6 0 5 5 5 end;");
        work(x, "give 0 1 2;pay 0;", 1, 1);
        Check.due("the holder of half 1 has 5, not D", x.told(4), 0);
    }

    /** "give: half H of an OPEN POT comes to another PERSON (his YEARS are 0)". */
    private static void gives() {
        PotHill x = Check.on(THREE + "pot 0 1 4 0 9 9 9 end;chips 20;");
        work(x, "give 0 0 0;give 0 1 1;", 0, 2);
        work(x, "give 0 0 1;give 0 1 0;give 0 0 1;", 2, 1);
        Check.due("half 0", x.pot(0, 4), 1);
        Check.due("half 1", x.pot(0, 5), 0);
        work(x, "give 0 0 0;", 1, 0);
        Check.due("both with one", x.holds(0, 1), 1);
        x = Check.on(THREE + "pot 0 1 4 0 9 9 9 end;chips 20;");
        Check.law(x, "age");
        work(x, "year;year;year;give 0 0 2;give 0 0 0;give 0 0 0;year;", 6, 1);
        // 0 + 1 + 2 and, given away and back, 0; the other half 0 + 1 + 2 + 3.
        Check.due("given: his YEARS are 0", x.depth(0, 0, 0), 6);
        Check.due("the other half's are 3", x.depth(0, 1, 0), 3);
        x = Check.on(THREE + "pot 0 1 4 0 9 9 9 end;chips 20;");
        Check.law(x, "age");
        work(x, "year;year;give 0 0 0;year;", 3, 1);
        Check.due("REFUSED: his YEARS stay", x.depth(0, 0, 0), 6);
        x = Check.on(THREE + "pot 0 1 4 0 9 9 9 end;pot 0 1 4 0 0 0 0 end;");
        work(x, "pay 0;year;give 0 0 2;give 1 1 2;", 2, 2);
        Check.due("PAID stays", x.pot(0, 4), 0);
        Check.due("VOID stays", x.pot(1, 5), 1);
    }

    /** "throw: the third shard of a POT, not thrown yet, lies on top of COLUMN X". */
    private static void throwsOnce() {
        PotHill x = Check.on(THREE + "pot 0 1 4 0 9 9 9 end;pot 0 1 4 0 0 0 0 end;heap 7 3;steep 9;");
        work(x, "throw 0 7;throw 0 7;throw 0 0;", 1, 2);
        Check.due("on top", x.shard(7, 3), 0);
        Check.due("alone", x.height(0), 0);
        work(x, "year;throw 1 7;", 2, 0);
        Check.due("of a VOID POT, too", x.shard(7, 4), 1);
        work(x, "dig 7;dig 7;pay 0;throw 0 0;", 4, 0);
        Check.due("of a PAID POT, too, and again", x.shard(0, 0), 0);
    }

    /** "as long as a COLUMN is higher than one beside it by more than S". */
    private static void slidesByMoreThanSteep() {
        for (int steep = 1; steep <= 9; steep++) {
            PotHill x = Check.on(THREE + "pot 0 1 4 0 9 9 9 end;heap 0 " + (steep - 1) + ";steep " + steep + ";");
            Check.work(x, "throw 0 0;");
            Check.due("by S: it lies", x.height(0), steep);
            Check.due("it lies there", x.pot(0, 7), 0);
            x = Check.on(THREE + "pot 0 1 4 0 9 9 9 end;heap 0 " + steep + ";steep " + steep + ";");
            Check.work(x, "throw 0 0;");
            Check.due("by S and 1: it slides", x.height(0), steep);
            Check.due("beside it", x.pot(0, 7), 1);
        }
        PotHill x = Check.on(THREE + "pot 0 1 4 0 9 9 9 end;heap 0 9;steep 1;");
        Check.work(x, "throw 0 7;");
        columns("as long as one is", x, 3, 3, 2, 1, 0, 0, 0, 1);
        x = Check.on(THREE + "pot 0 1 4 0 9 9 9 end;heap 7 9;steep 1;");
        Check.work(x, "throw 0 0;");
        columns("from the right rim", x, 1, 0, 0, 0, 1, 2, 3, 3);
    }

    /** "the first such": of two that would slide the left one goes first, as what then meets in the middle tells. */
    private static void slidesTheFirst() {
        PotHill x = Check.on(THREE + "pot 0 1 4 0 9 9 9 end;heap 0 1;heap 1 2;heap 2 0;heap 3 2;heap 4 1;steep 1;");
        Check.work(x, "throw 0 7;");
        // Column 1 slides onto 2; then column 3 is higher than 2 by 1 only.
        columns("the first such", x, 1, 1, 1, 2, 1, 0, 0, 1);
    }

    /** "(of both beside it the lower one, of alike ones the left) lets its top shard fall on that one". */
    private static void slidesToTheLower() {
        PotHill x = Check.on(THREE + "pot 0 1 4 0 9 9 9 end;heap 3 3;heap 2 2;heap 4 1;steep 2;");
        Check.work(x, "throw 0 3;");
        columns("the right is lower", x, 0, 0, 2, 3, 2, 0, 0, 0);
        Check.due("its top shard", x.shard(4, 1), 0);
        x = Check.on(THREE + "pot 0 1 4 0 9 9 9 end;heap 3 3;heap 2 1;heap 4 2;steep 2;");
        Check.work(x, "throw 0 3;");
        columns("the left is lower", x, 0, 0, 2, 3, 2, 0, 0, 0);
        Check.due("its top shard", x.shard(2, 1), 0);
        x = Check.on(THREE + "pot 0 1 4 0 9 9 9 end;heap 3 3;heap 2 1;heap 4 1;steep 2;");
        Check.work(x, "throw 0 3;");
        columns("alike: the left", x, 0, 0, 2, 3, 1, 0, 0, 0);
        // Both are lower by more than S, but not alike: it falls on the lower one, not the first.
        x = Check.on(THREE + "pot 0 1 4 0 9 9 9 end;heap 3 5;heap 2 2;heap 4 1;heap 5 2;heap 1 2;steep 3;");
        Check.work(x, "throw 0 3;");
        Check.due("the lower of two", x.pot(0, 7), 4);
        x = Check.on(THREE + "pot 0 1 4 0 9 9 9 end;heap 6 1;heap 7 3;heap 5 0;steep 2;");
        Check.work(x, "throw 0 7;");
        columns("the right rim has but a left", x, 0, 0, 0, 0, 0, 0, 2, 3);
        x = Check.on(THREE + "pot 0 1 4 0 9 9 9 end;heap 1 1;heap 0 3;heap 7 0;steep 2;");
        Check.work(x, "throw 0 0;");
        columns("the left rim has but a right", x, 3, 2, 0, 0, 0, 0, 0, 0);
    }

    /** "dig: the top shard of COLUMN X is taken away (REFUSED, if there is none); .. is thrown no more; then it SLIDES". */
    private static void digs() {
        PotHill x = Check.on(THREE + "pot 0 1 4 0 9 9 9 end;heap 2 1;steep 9;");
        work(x, "dig 2;dig 2;dig 0;dig 7;", 1, 3);
        work(x, "throw 0 2;dig 2;dig 2;", 2, 1);
        Check.due("thrown no more", x.pot(0, 7), -1);
        Check.due("no BASKETS", x.baskets(0), -1);
        work(x, "throw 0 7;dig 7;throw 0 0;", 3, 0);
        x = Check.on(THREE + "pot 0 1 4 0 9 9 9 end;heap 2 2;heap 3 1;steep 1;heap 1 1;");
        work(x, "dig 3;", 1, 0);
        columns("then it SLIDES", x, 0, 1, 1, 1, 0, 0, 0, 0);
        x = Check.on(THREE + "pot 0 1 4 0 9 9 9 end;heap 2 3;steep 1;");
        work(x, "dig 7;", 0, 1);
        columns("REFUSED: it does not", x, 0, 0, 3, 0, 0, 0, 0, 0);
        x = Check.on(THREE + "pot 0 1 4 0 9 9 9 end;heap 2 2;steep 9;");
        work(x, "throw 0 2;dig 2;", 2, 0);
        work(x, "dig 2;", 1, 0);
        Check.due("an old one is no POT's", x.pot(0, 7), -1);
    }

    /** "year: the YEAR is one more (REFUSED from 200 on)". */
    private static void yearsUpTo200() {
        PotHill x = Check.on(THREE + "pot 0 1 4 0 9 9 9 end;");
        work(x, "again 19 [again 9 [year;];];again 8 [year;];", 179, 0);
        work(x, "again 20 [year;];", 20, 0);
        Check.due("199", x.told(2), 199);
        work(x, "year;", 1, 0);
        Check.due("200", x.told(2), 200);
        Check.law(x, "9");
        work(x, "year;", 0, 1);
        Check.due("REFUSED: 200", x.told(2), 200);
        Check.due("REFUSED: nothing wears", x.depth(0, 0, 0), 9);
        Check.due("REFUSED: none is VOID", x.told(5), 0);
        Check.due("undone", x.undo(), 3);
        Check.due("undone", x.undo(), 2);
        work(x, "year;year;", 1, 1);
        Check.due("from 199 once", x.told(2), 200);
    }

    /** "each PLACE of each half of OPEN POTS WEARS (all by what they are ahead of it; year, age as they were)". */
    private static void wearsByWhatWasAhead() {
        PotHill x = Check.on(THREE + "pot 0 1 4 0 9 8 7 6 5 4 end;pot 1 2 4 0 3 3 3 end;chips 20;");
        Check.law(x, "depth - 4 + half - place");
        Check.work(x, "year;");
        int[] zero = {9 - 5, 8 - 3, 7 - 1, 6, 5, 4};
        int[] one = {9 - 6, 8 - 4, 7 - 2, 6, 5, 4};
        for (int place = 0; place < 6; place++) {
            Check.due("half 0, PLACE " + place, x.depth(0, 0, place), zero[place]);
            Check.due("half 1, PLACE " + place, x.depth(0, 1, place), one[place]);
        }
        x = Check.on(THREE + "pot 0 1 4 0 9 9 9 end;chips 20;");
        Check.law(x, "year * 3");
        Check.work(x, "year;");
        Check.due("year as it was: 0", x.depth(0, 0, 0), 9);
        Check.work(x, "year;");
        Check.due("year as it was: 1", x.depth(0, 0, 0), 6);
        x = Check.on(THREE + "pot 0 1 4 0 9 9 9 end;chips 20;");
        Check.law(x, "age * 3");
        Check.work(x, "year;");
        Check.due("age as it was: 0", x.depth(0, 1, 2), 9);
        Check.work(x, "year;");
        Check.due("age as it was: 1", x.depth(0, 1, 2), 6);
    }

    private static void wearsOpenOnesAlone() {
        PotHill x = Check.on(THREE + "pot 0 1 4 0 9 9 9 end;pot 0 1 4 0 9 9 9 end;pot 0 1 4 0 0 0 1 end;");
        Check.law(x, "half");
        Check.work(x, "pay 0;year;year;");
        Check.due("PAID does not wear", x.depth(0, 1, 0), 9);
        Check.due("OPEN wears", x.depth(1, 1, 0), 7);
        Check.due("VOID wore out", x.depth(2, 1, 2), 0);
        Check.law(x, "1");
        Check.work(x, "year;");
        Check.due("VOID does not wear", x.depth(2, 0, 2), 1);
        Check.due("OPEN wears", x.depth(1, 0, 0), 8);
    }

    /** "those halves are held one YEAR longer". */
    private static void ages() {
        PotHill x = Check.on(THREE + "pot 0 1 4 0 9 9 9 end;chips 20;");
        Check.work(x, "year;give 0 1 2;year;year;");
        Check.law(x, "age");
        Check.work(x, "year;");
        Check.due("held 3 YEARS", x.depth(0, 0, 0), 6);
        Check.due("held 2 YEARS", x.depth(0, 1, 0), 7);
    }

    /** "due (1 behind Y, else 0)". */
    private static void dueBehindY() {
        for (int y = 0; y <= 60; y += 20) {
            PotHill x = Check.on(THREE + "pot 0 1 4 " + y + " 9 9 9 end;pot 0 1 4 60 9 9 9 end;");
            Check.law(x, "due * 9");
            Check.work(x, "again 20[year;];".repeat(y / 20));
            Check.due("YEAR", x.told(2), y);
            Check.due("in Y itself", x.depth(0, 0, 0), 9);
            Check.due("not DUE", x.told(6), 0);
            Check.work(x, "year;");
            Check.due("that was by Y", x.depth(0, 0, 0), 9);
            Check.due("DUE behind Y", x.told(6), y == 60 ? 2 : 1);
            Check.work(x, "year;");
            Check.due("behind Y it is 1", x.depth(0, 0, 0), 0);
        }
    }

    /** "an OPEN POT with a half all of whose DEPTHS are 0 is VOID". */
    private static void voids() {
        PotHill x = Check.on(THREE + "pot 0 1 4 0 0 0 0 end;pot 0 1 4 0 0 0 1 end;pot 0 1 4 0 0 0 0 0 0 1 end;");
        Check.due("not at first", x.told(5), 0);
        Check.work(x, "year;");
        Check.due("by a year alone", x.pot(0, 3), 2);
        Check.due("a PLACE is left", x.pot(1, 3), 0);
        Check.due("the 6th is left", x.pot(2, 3), 0);
        Check.law(x, "half");
        Check.work(x, "year;");
        Check.due("half 1 is worn out", x.pot(1, 3), 2);
        x.undo();
        Check.law(x, "1 - half");
        Check.work(x, "year;");
        Check.due("half 0 is worn out", x.pot(2, 3), 2);
        x = Check.on(THREE + "pot 0 1 4 0 0 0 0 end;");
        work(x, "pay 0;year;", 2, 0);
        Check.due("PAID is not VOID", x.pot(0, 3), 1);
        x = Check.on(THREE + "pot 0 1 4 0 2 0 3 end;chips 20;");
        Check.law(x, "2 + half");
        Check.work(x, "year;");
        Check.due("half 0 has 1 left, half 1 none", x.depth(0, 0, 2), 1);
        Check.due("one half is enough", x.told(5), 1);
    }

    /** "DUE: OPEN behind Y (YEAR above Y)"; promise 9's 3 to 6. */
    private static void dueOnes() {
        PotHill x = Check.on(THREE + "pot 0 1 4 0 9 9 9 end;pot 0 1 4 1 9 9 9 end;pot 0 1 4 0 0 0 0 end;"
            + "pot 0 1 4 0 5 5 5 end;");
        int[][] want = {{4, 0, 0, 0}, {2, 1, 1, 1}, {2, 1, 1, 2}};
        for (int year = 0; year < 3; year++) {
            for (int what = 3; what <= 6; what++) {
                Check.due("YEAR " + year + ": told(" + what + ")", x.told(what), want[year][what - 3]);
            }
            Check.work(x, "pay 3;year;");
        }
    }

    /** Promise 5: "-20 ahead of that (nothing is read, there is no FAULT, the TAPE is empty then): 16 WORKS are there". */
    private static void sixteenWorks() {
        PotHill x = Check.on(THREE + "heap 0 9;steep 9;");
        for (int k = 1; k <= 16; k++) {
            Check.due("WORK " + k, Check.work(x, k <= 9 ? "dig 0;" : ""), k <= 9 ? 1 : 0);
            Check.due("there are", x.count(2), k);
        }
        Check.law(x, "x");
        Check.due("the 17th", Check.work(x, "heap"), -20);
        Check.due("there is no FAULT", x.fault(), -1);
        Check.due("the TAPE is empty then", x.count(1), 0);
        Check.due("nothing is done", Check.work(x, "year;"), -20);
        Check.due("YEAR 0", x.told(2), 0);
        Check.due("0 bytes", x.work(0), -20);
        Check.due("still 16", x.count(2), 16);
        Check.put(x, "year;");
        Check.none("n is none such", () -> x.work(21));
        Check.due("it stays", x.count(1), 20);
        Check.due("15 are left", x.undo(), 15);
        Check.due("so one more goes", x.work(5), 1);
        Check.due("and no other", Check.work(x, "year;"), -20);
        Check.due("a WORK with a FAULT is none", x.undo(), 15);
        Check.due("a FAULT", Check.work(x, "years;"), -9);
        Check.due("still 15", x.count(2), 15);
        Check.hill(x, "heap 0 9;");
        Check.due("a new HILL has none", x.count(2), 0);
        Check.due("so it goes", Check.work(x, "dig 0;"), 1);
    }

    /** Promise 8: "The latest WORK that was done is undone: how many are left; -1: there is none". */
    private static void undoes() {
        PotHill x = Check.on(THREE + "pot 0 1 4 0 9 9 9 end;heap 0 1;steep 1;");
        Check.due("none", x.undo(), -1);
        Check.law(x, "1");
        Check.work(x, "year;");
        Check.work(x, "throw 0 0;give 0 0 2;pay 0;dig 0;");
        Check.work(x, "years;");
        Check.due("a FAULT is not undone: 1 is left", x.undo(), 1);
        columns("the heap", x, 1, 0, 0, 0, 0, 0, 0, 0);
        Check.due("the third shard", x.pot(0, 7), -1);
        Check.due("half 0's holder", x.pot(0, 4), 0);
        Check.due("OPEN", x.pot(0, 3), 0);
        Check.due("has(1)", x.has(1), 20);
        Check.due("has(2)", x.has(2), 5);
        Check.due("YEAR 1", x.told(2), 1);
        Check.due("0 are left", x.undo(), 0);
        Check.due("YEAR 0", x.told(2), 0);
        Check.due("DEPTH", x.depth(0, 1, 2), 9);
        Check.due("none", x.undo(), -1);
        Check.law(x, "age + 1");
        Check.work(x, "year;");
        Check.due("held for 0 YEARS again", x.depth(0, 0, 0), 8);
        Check.work(x, "give 0 0 1;");
        x.undo();
        Check.work(x, "year;");
        Check.due("held for 1 YEAR again", x.depth(0, 0, 0), 6);
        Check.work(x, "dig 7;");
        Check.due("a WORK all of whose STEPS are REFUSED is one", x.undo(), 2);
        Check.work(x, "");
        Check.due("so is one without STEPS", x.undo(), 2);
    }

    /** Promise 9: "9 STEPS REFUSED by the latest WORK (0 ahead of any, behind undo(), restore())". */
    private static void refusedByTheLatest() {
        PotHill x = Check.on(THREE + "pot 0 1 4 0 9 9 9 end;");
        Check.due("ahead of any", x.told(9), 0);
        work(x, "dig 0;dig 1;year;", 1, 2);
        work(x, "dig 0;", 0, 1);
        work(x, "year;", 1, 0);
        work(x, "again 3[dig 0;again 2[dig 1;];];", 0, 9);
        x.image();
        Check.due("an IMAGE changes nothing", x.told(9), 9);
        x.undo();
        Check.due("behind undo()", x.told(9), 0);
        work(x, "dig 0;", 0, 1);
        x.restore();
        Check.due("behind restore()", x.told(9), 0);
        work(x, "dig 0;dig 0;dig 0;", 0, 3);
        Check.work(x, "dig 8;");
        Check.due("a WORK with a FAULT is none", x.told(9), 3);
        Check.due("no IMAGE, nothing restored", x.restore(), -1);
        Check.due("so it stays", x.told(9), 3);
        Check.hill(x, THREE);
        Check.due("ahead of any of this HILL", x.told(9), 0);
    }

    /** Promise 3: "(YEAR 0; no LAW, THUMB, IMAGES, nothing to undo)", "the FAULT less 10 (all stays)". */
    private static void startsAnew() {
        String text = THREE + "pot 0 1 4 0 9 9 9 end;heap 4 4;chips 1;steep 1;";
        PotHill x = Check.on(text);
        Check.law(x, "1");
        Check.thumb(x, "0 8;");
        Check.work(x, "year;throw 0 4;give 0 1 2;");
        x.image();
        Check.due("a FAULT", Check.hill(x, "person 1;person 1;heap 4 0;chips 20;steep 9;x"), -9);
        Check.due("all stays: YEAR", x.told(2), 1);
        Check.due("all stays: PEOPLE", x.told(0), 3);
        Check.due("all stays: T", x.forge(0, 1), 0);
        Check.due("all stays: S", x.tossed(4, 0) > 0 ? 1 : 0, 1);
        Check.due("all stays: shards", x.told(7), 5);
        Check.due("all stays: LAW", x.would(9, 0, 0, 0, 0, 0), 1);
        Check.due("all stays: THUMB", x.fits(), 3);
        Check.due("all stays: IMAGES", x.count(0), 1);
        Check.due("all stays: WORKS", x.count(2), 1);
        Check.due("the same HILL", Check.hill(x, text), 1);
        Check.due("YEAR 0", x.told(2), 0);
        Check.due("no LAW", x.would(9, 0, 0, 0, 0, 0), 0);
        Check.due("no THUMB", x.told(8), 0);
        Check.due("no THUMB: all fit", x.fits(), 3);
        Check.due("no IMAGES", x.restore(), -1);
        Check.due("nothing to undo", x.undo(), -1);
        Check.due("D has half 1", x.pot(0, 5), 1);
        columns("COLUMNS as told", x, 0, 0, 0, 0, 4, 0, 0, 0);
        Check.law(x, "age");
        Check.work(x, "year;");
        Check.due("for 0 YEARS", x.depth(0, 0, 0), 9);
    }
}
