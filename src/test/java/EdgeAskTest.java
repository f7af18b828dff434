/**
 * The edges that "==== 3." of the terms and promises 10 to 37 name, a sentence at a time. The quoted words are the
 * document's; what the calls refuse stands in EdgeCallTest.
 */
public final class EdgeAskTest {
    private static final String THREE = "person 10;person 20;person 5;";
    private static final String POT = "pot 0 1 4 0 9 9 9 end;";

    public static void main(String[] args) {
        nothingStaysChanged();
        yearsBeyond200();
        lasts();
        owed();
        shards();
        safe();
        tossed();
        baskets();
        order();
        mean();
        fits();
        feel();
        feelNothing();
        forge();
        easiest();
        tell();
        net();
        struck();
        ring();
        gets();
        holds();
        deep();
        ahead();
        goatsDraw();
        goatsFall();
        goatsCount();
        span();
        Check.end("EdgeAskTest");
    }

    /** "Asked, nothing stays changed". */
    private static void nothingStaysChanged() {
        PotHill x = Check.on(THREE + POT + "pot 1 2 4 0 1 1 1 end;heap 3 9;heap 4 1;steep 1;");
        Check.law(x, "1");
        Check.work(x, "throw 0 7;dig 0;");
        String before = AnyCallTest.everything(x);
        x.lasts(0);
        x.safe();
        x.tossed(3, 0);
        x.tossed(3, 1);
        x.ahead(100, 1);
        x.goats(1, 16, 100, 1);
        x.goats(1, 16, 100, 3);
        x.span(1, 20, 16, 100, 2, 0);
        x.feel(0);
        x.ring(1);
        x.order();
        x.mean(0);
        Check.due("nothing stays changed", AnyCallTest.everything(x).equals(before) ? 1 : 0, 1);
        int slid = x.goats(9, 16, 50, 1);
        Check.due("nor the next answer", x.goats(9, 16, 50, 1), slid);
    }

    /** "YEARS go by as by year (beyond 200, too)". */
    private static void yearsBeyond200() {
        PotHill x = Check.on(THREE + POT + "pot 1 2 4 0 5 5 5 end;chips 20;");
        Check.work(x, "again 19 [again 9 [year;];];again 8 [year;];");
        Check.work(x, "again 20 [year;];year;");
        Check.due("YEAR 200", x.told(2), 200);
        Check.law(x, "year - 199");
        Check.due("by YEAR 200, 1 each; by 201, 2 ..", x.ahead(2, 1), 0);
        Check.due("1 + 2 + 3 is 5 or more", x.ahead(3, 1), 1);
        Check.due("1 + 2 + 3 + 4 is 9 or more", x.ahead(4, 1), 2);
        Check.due("lasts", x.lasts(0), 4);
        Check.due("goats", x.goats(1, 0, 3, 3), 1);
        Check.law(x, "(age - 299) * 9");
        Check.due("age goes on: not in 99", x.ahead(99, 1), 0);
        Check.due("nor in 100", x.ahead(100, 1), 0);
        Check.due("but in 101", x.lasts(0), 101);
    }

    /** Promise 15: "In how many YEARS (0: now; 200 at most) .. a POT is VOID or its halves do not MEET; NONE". */
    private static void lasts() {
        PotHill x = Check.on(THREE + POT + "pot 0 1 4 0 0 0 0 end;chips 3;");
        Check.due("without a LAW", x.lasts(0), -1);
        Check.due("all 0 is VOID in 1", x.lasts(1), 1);
        Check.law(x, "half");
        Check.due("3 apart in 1, 6 in 2", x.lasts(0), 2);
        Check.law(x, "(year - 198) * 9");
        Check.due("VOID in 200", x.lasts(0), 200);
        Check.law(x, "(year - 198) * half * 2");
        Check.due("not MEETING in 200", x.lasts(0), 200);
        Check.law(x, "(year - 199) * 9");
        Check.due("in 201: NONE", x.lasts(0), -1);
        Check.law(x, "half");
        Check.work(x, "year;year;");
        Check.due("0: they do not MEET now", x.lasts(0), 0);
        Check.due("0: VOID now", x.lasts(1), 0);
        PotHill y = Check.on(THREE + POT + POT);
        Check.law(y, "1");
        Check.work(y, "pay 0;");
        Check.due("PAID: it wears no more", y.lasts(0), -1);
        Check.due("OPEN", y.lasts(1), 9);
        PotHill z = Check.on(THREE + POT + "pot 0 1 4 2 9 9 9 end;");
        Check.law(z, "due * 9");
        Check.due("due is 1 from YEAR 1 on", z.lasts(0), 2);
        Check.due("due is 1 from YEAR 3 on", z.lasts(1), 4);
        Check.law(z, "age / 3 * 9");
        Check.due("age is 3 in YEAR 3", z.lasts(0), 4);
        Check.work(z, "year;year;give 0 0 2;");
        Check.due("half 0 was given, half 1 was not: they part in 2", z.lasts(0), 2);
    }

    /** "OWED of one to another: N of all OPEN POTS whose half 1 the one holds and half 0 the other"; "(0: one)". */
    private static void owed() {
        PotHill x = Check.on(THREE + "pot 0 1 4 0 9 9 9 end;pot 0 1 7 0 9 9 9 end;pot 1 0 2 0 9 9 9 end;"
            + "pot 0 1 1 0 0 0 0 end;");
        Check.due("together", x.owed(1, 0), 12);
        Check.due("the other way", x.owed(0, 1), 2);
        Check.due("nothing", x.owed(2, 0), 0);
        Check.due("one to himself", x.owed(1, 1), 0);
        Check.work(x, "year;pay 1;");
        Check.due("neither PAID nor VOID", x.owed(1, 0), 4);
        Check.work(x, "give 0 1 0;");
        Check.due("one to himself who holds both", x.owed(0, 0), 0);
        Check.due("nobody else owes it", x.owed(1, 0), 0);
        Check.work(x, "give 0 1 2;give 0 0 1;");
        Check.due("holders, not C and D", x.owed(2, 1), 4);
    }

    /** Promise 18: "(from below, 0 first): the POT; -2: an old one; NONE: there is none such". */
    private static void shards() {
        PotHill x = Check.on(THREE + POT + POT + "heap 5 2;steep 9;");
        Check.work(x, "throw 1 5;throw 0 5;");
        int[] want = {-2, -2, 1, 0, -1};
        for (int k = 0; k < 5; k++) {
            Check.due("shard(5, " + k + ")", x.shard(5, k), want[k]);
        }
        Check.due("far above", x.shard(5, Integer.MAX_VALUE), -1);
        Check.due("of an empty COLUMN", x.shard(0, 0), -1);
        Check.work(x, "dig 5;");
        Check.due("what was dug is none such", x.shard(5, 3), -1);
    }

    /** "SAFE: COLUMNS on which a shard may be thrown so that nothing slides". */
    private static void safe() {
        Check.due("an empty heap", Check.on("steep 1;").safe(), 255);
        Check.due("by S exactly, and one more would be too high", Check.on("heap 2 2;").safe(), 255 - 4);
        Check.due("one below S", Check.on("heap 2 1;").safe(), 255);
        Check.due("by S, with the right one by S, too", Check.on("heap 2 2;heap 3 2;").safe(), 255 - 4 - 8);
        Check.due("a hill with steps on both sides", Check.on("heap 1 2;heap 2 4;heap 3 2;").safe(), 255 - 2 - 4 - 8);
        Check.due("rims", Check.on("heap 0 2;heap 7 2;").safe(), 255 - 1 - 128);
        Check.due("what slides as told slides whatever is thrown far off", Check.on("heap 2 3;").safe(), 0);
        Check.due("but not, if the throw steadies it", Check.on("heap 2 3;heap 3 1;").safe(), 2);
        Check.due("or so", Check.on("heap 2 3;heap 1 1;").safe(), 8);
        Check.due("a throw may not make up for two", Check.on("heap 0 3;heap 7 3;").safe(), 0);
    }

    /** Promise 20: "0 how often a shard slides, 1 the COLUMN in which the thrown one comes to lie". */
    private static void tossed() {
        PotHill x = Check.on("heap 0 1;heap 1 1;heap 2 1;steep 1;");
        Check.due("it lies", x.tossed(1, 0), 0);
        Check.due("there", x.tossed(1, 1), 1);
        Check.due("by one at the right end of it", x.tossed(2, 0), 1);
        Check.due("beside it", x.tossed(2, 1), 3);
        PotHill y = Check.on("heap 0 5;heap 1 4;heap 2 3;heap 3 2;heap 4 1;steep 1;");
        Check.due("no fall at the rim, 6 by 4", y.tossed(0, 0), 5);
        Check.due("down the whole stair", y.tossed(0, 1), 5);
        PotHill z = Check.on("heap 3 9;steep 1;");
        Check.due("others slide, it stays at the rim", z.tossed(7, 1), 7);
        Check.due("thrown on the empty rim", z.tossed(0, 1), 0);
        PotHill w = Check.on("heap 3 4;heap 4 4;heap 2 4;steep 3;");
        Check.due("both sides slide", w.tossed(7, 0), 2);
        Check.due("the thrown one lies under none", w.tossed(3, 1), 3);
    }

    /** "BASKETS of a POT's third shard: shards on top of it, and 1"; promise 21 "NONE: not thrown". */
    private static void baskets() {
        PotHill x = Check.on(THREE + POT + POT + POT + "heap 5 2;steep 9;");
        Check.due("not thrown", x.baskets(0), -1);
        Check.work(x, "throw 0 5;");
        Check.due("on top", x.baskets(0), 1);
        Check.work(x, "throw 1 5;");
        Check.due("one on top of it", x.baskets(0), 2);
        Check.due("the other is on top", x.baskets(1), 1);
        Check.due("still not thrown", x.baskets(2), -1);
        Check.work(x, "dig 5;dig 5;");
        Check.due("dug", x.baskets(0), -1);
    }

    /** Promise 22: "(each COLUMN and 1; the first the highest; 0: the heap is empty)"; "of alike rows the first". */
    private static void order() {
        Check.due("the heap is empty", Check.on("heap 3 0;").order(), 0);
        Check.due("COLUMN 0", Check.on("heap 0 1;").order(), 1);
        Check.due("COLUMN 7", Check.on("heap 7 9;").order(), 8);
        Check.due("alike: the first", Check.on("heap 1 4;heap 5 4;heap 3 4;").order(), 246);
        Check.due("the higher first", Check.on("heap 1 4;heap 5 5;heap 3 6;").order(), 462);
        Check.due("by one shard", Check.on("heap 0 8;heap 7 9;").order(), 81);
        Check.due("all", Check.on("heap 0 1;heap 1 2;heap 2 3;heap 3 4;heap 4 5;heap 5 6;heap 6 7;heap 7 8;").order(),
            87654321);
        Check.due("third shards count as old ones do", thrown().order(), 21);
    }

    private static PotHill thrown() {
        PotHill x = Check.on(THREE + POT + "heap 0 2;heap 1 2;steep 9;");
        Check.work(x, "throw 0 1;");
        return x;
    }

    private static void mean(String hill, int above, int below) {
        PotHill x = Check.on(hill);
        Check.due(hill + " above", x.mean(0), above);
        Check.due(hill + " below", x.mean(1), below);
    }

    /** Promise 23: "above (part 0), below (part 1), in least terms; 0 by 1: the heap is empty". */
    private static void mean() {
        mean("heap 3 0;", 0, 1);
        mean("heap 3 1;", 1, 1);
        // 2 * 1 + 1 * 2 by 3.
        mean("heap 3 2;", 4, 3);
        // 3 * 1 + 2 * 2 + 1 * 3 by 6.
        mean("heap 3 3;", 5, 3);
        // 1 * 1 + 1 * 2 by 2.
        mean("heap 3 1;heap 4 1;", 3, 2);
        // 4 * 1 + 3 * 2 + 2 * 3 + 1 * 4 is 20 by 10.
        mean("heap 3 4;", 2, 1);
        // The higher first: 2 * 1 + 1 * 2, then 1 * 3 by 4.
        mean("heap 0 1;heap 1 2;", 7, 4);
        Check.due("third shards count as old ones do: 3 * 1 + 2 * 2 + 1 * 3 + 2 * 4 + 1 * 5 by 9", thrown().mean(0), 23);
        Check.due("by 9", thrown().mean(1), 9);
    }

    /** "THUMB of a half: all lines are right by its DEPTHS (a PLACE it has not: never). FITS: halves of OPEN POTS". */
    private static void fits() {
        PotHill x = Check.on(THREE + "pot 0 1 4 0 1 2 3 end;pot 0 1 4 0 1 2 3 0 end;pot 0 1 4 0 1 2 4 0 end;");
        Check.due("no lines", x.fits(), 63);
        Check.thumb(x, "2 3;");
        Check.due("one line", x.fits(), 15);
        Check.thumb(x, "2 3;0 1;1 2;");
        Check.due("all lines", x.fits(), 15);
        Check.thumb(x, "2 3;0 1;1 3;");
        Check.due("all but one", x.fits(), 0);
        Check.thumb(x, "3 0;");
        Check.due("a PLACE it has not: never", x.fits(), 60);
        Check.thumb(x, "4 0;");
        Check.due("one that none has", x.fits(), 0);
        Check.thumb(x, "");
        Check.work(x, "pay 0;");
        Check.due("PAID is not OPEN", x.fits(), 60);
        PotHill y = Check.on(THREE + "pot 0 1 4 0 0 0 0 end;pot 0 1 4 0 1 2 3 end;");
        Check.work(y, "year;");
        Check.due("VOID is not OPEN", y.fits(), 12);
        Check.due("no POTS", new PotHill().fits(), 0);
    }

    /** "FEEL: the PLACE in no line, 0 to 5, by which .. fewest FITS are left at the worst, of these the first". */
    private static void feel() {
        PotHill x = Check.on(THREE + "pot 0 1 4 0 1 2 3 4 5 6 end;pot 0 1 4 0 1 2 3 4 5 7 end;");
        Check.due("the last PLACE", x.feel(0), 5);
        Check.due("2 are left", x.feel(1), 2);
        Check.thumb(x, "5 6;");
        Check.due("the first in no line", x.feel(0), 0);
        Check.due("2 are left", x.feel(1), 2);
        Check.thumb(x, "0 1;5 6;1 2;");
        Check.due("PLACE 2", x.feel(0), 2);
        Check.thumb(x, "0 1;1 2;2 3;3 4;5 6;");
        Check.due("the one that is left", x.feel(0), 4);
        Check.due("2", x.feel(1), 2);
        Check.thumb(x, "0 1;1 2;2 3;3 4;4 5;5 6;");
        Check.due("all PLACES are in lines", x.feel(0), -1);
        Check.due("NONE", x.feel(1), -1);
        Check.thumb(x, "1 9;");
        Check.due("none FITS", x.feel(0), 0);
        Check.due("0 are left", x.feel(1), 0);
        Check.due("no POTS", new PotHill().feel(0), 0);
        Check.due("no POTS: 0 are left", new PotHill().feel(1), 0);
        // Pots of DEPTHS 1 1 2 2 at PLACE 0 (4 halves at the worst), 1 2 2 2 at PLACE 1 (6), 1 2 3 3 at PLACE 2 (4).
        PotHill y = Check.on(THREE + "pot 0 1 4 0 1 1 1 end;pot 0 1 4 0 1 2 2 end;pot 0 1 4 0 2 2 3 end;"
            + "pot 0 1 4 0 2 2 3 end;");
        Check.due("at the worst, not on the mean: the first", y.feel(0), 0);
        Check.due("4 are left", y.feel(1), 4);
    }

    /** "whatever is felt there (or nothing)". */
    private static void feelNothing() {
        PotHill x = Check.on(THREE + "pot 0 1 4 0 5 5 5 end;pot 0 1 4 0 5 5 5 0 end;pot 0 1 4 0 5 5 5 0 0 end;");
        Check.due("nothing, or 0: PLACE 3", x.feel(0), 3);
        Check.due("4 are left", x.feel(1), 4);
        Check.thumb(x, "3 0;");
        Check.due("PLACE 4", x.feel(0), 4);
        Check.due("2 are left", x.feel(1), 2);
        Check.thumb(x, "4 0;");
        Check.due("all that is left has PLACE 3", x.feel(0), 0);
        PotHill y = Check.on(THREE + "pot 0 1 4 0 5 5 5 end;pot 0 1 4 0 5 5 5 end;pot 0 1 4 0 5 5 5 9 end;");
        Check.due("nothing at the worst", y.feel(1), 4);
        Check.due("by PLACE 3", y.feel(0), 3);
    }

    /** "the fewest by which a, chipped, would be apart from b by no more than T .. NONE: it can't, or .. PLACES". */
    private static void forge() {
        String pots = THREE + "pot 0 1 4 0 9 5 5 end;pot 0 1 4 0 5 5 7 end;pot 0 1 4 0 9 5 5 0 end;";
        int[] want = {-1, -1, 4, 3, 2, 1, 0, 0};
        for (int chips = 0; chips < 8; chips++) {
            PotHill x = Check.on(pots + "chips " + chips + ";");
            Check.due("4 too deep, 2 too shallow, T " + chips, x.forge(0, 2), want[chips]);
        }
        int[] back = {-1, -1, -1, -1, 2, 1, 0, 0};
        for (int chips = 0; chips < 8; chips++) {
            PotHill x = Check.on(pots + "chips " + chips + ";");
            Check.due("2 too deep, 4 too shallow, T " + chips, x.forge(2, 0), back[chips]);
        }
        PotHill x = Check.on(pots + "chips 20;");
        Check.due("not as many PLACES", x.forge(0, 4), -1);
        Check.due("nor the other way", x.forge(5, 1), -1);
        Check.due("a for a", x.forge(4, 4), 0);
        PotHill y = Check.on(pots + "chips 0;");
        Check.due("a for a by T 0", y.forge(0, 0), 0);
        Check.law(y, "half * 2");
        Check.work(y, "year;");
        Check.due("by DEPTHS now: half 0 for half 1", y.forge(0, 1), 6);
        Check.due("half 1 for half 0", y.forge(1, 0), -1);
        PotHill z = Check.on(THREE + "pot 0 1 4 0 9 9 9 end;pot 0 1 4 0 0 0 0 end;chips 0;");
        Check.due("down to 0", z.forge(0, 2), 27);
        Check.work(z, "pay 0;year;");
        Check.due("PAID or VOID, too", z.forge(1, 3), 27);
    }

    /** Promise 27: "of OPEN POTS, not a itself, .. by fewest chips, of these the least; NONE". */
    private static void easiest() {
        PotHill x = Check.on(THREE + "pot 0 1 4 0 9 9 9 end;pot 0 1 4 0 8 8 8 end;pot 0 1 4 0 8 8 8 end;"
            + "pot 0 1 4 0 9 9 9 9 end;chips 0;");
        Check.due("not a itself: its other half", x.easiest(0), 1);
        Check.due("the least of three", x.easiest(3), 2);
        Check.due("the least of three", x.easiest(5), 2);
        Check.work(x, "pay 0;");
        Check.due("a itself is not OPEN: another's", x.easiest(0), 2);
        Check.due("none as deep is OPEN", x.easiest(2), 3);
        Check.work(x, "pay 1;pay 2;");
        Check.due("not as many PLACES", x.easiest(0), -1);
        Check.due("the last POT's", x.easiest(7), 6);
        PotHill y = Check.on(THREE + "pot 0 1 4 0 1 1 1 end;pot 0 1 4 0 9 9 9 end;chips 0;");
        Check.work(y, "pay 0;");
        Check.due("it can't", y.easiest(0), -1);
        PotHill z = Check.on(THREE + "pot 0 1 4 0 9 9 9 end;pot 0 1 4 0 5 5 5 end;pot 0 1 4 0 7 7 7 end;chips 0;");
        Check.work(z, "pay 0;");
        Check.due("the fewest chips, not the first", z.easiest(1), 4);
    }

    private static int told(String pots) {
        return Check.on(THREE + pots).tell();
    }

    /** "the least number m of first PLACES (1 to 6) by which any two POTS' halves 0 .. are apart by more than 2 T". */
    private static void tell() {
        Check.due("no POTS", new PotHill().tell(), 1);
        Check.due("one POT", told("pot 0 1 4 0 0 0 0 end;chips 20;"), 1);
        Check.due("4 apart by T 1", told("pot 0 1 4 0 0 0 0 end;pot 0 1 4 0 4 0 0 end;chips 1;"), 1);
        Check.due("4 apart by T 2: not more", told("pot 0 1 4 0 0 0 0 end;pot 0 1 4 0 4 0 0 end;chips 2;"), -1);
        Check.due("1 apart by T 0", told("pot 0 1 4 0 0 0 0 end;pot 0 1 4 0 0 0 1 end;chips 0;"), 3);
        Check.due("0 apart by T 0", told("pot 0 1 4 0 0 0 1 end;pot 0 1 4 0 0 0 1 end;chips 0;"), -1);
        for (int m = 1; m <= 6; m++) {
            String same = " 7".repeat(m - 1);
            String rest = " 3".repeat(6 - m);
            Check.due("m " + m, told("pot 0 1 4 0" + same + " 5" + rest + " end;pot 0 1 4 0" + same + " 0" + rest
                + " end;"), m);
        }
        Check.due("a PLACE there is not: 0 deep", told("pot 0 1 4 0 1 1 1 end;pot 0 1 4 0 1 1 1 5 end;"), 4);
        Check.due("0 deep alike", told("pot 0 1 4 0 1 1 1 end;pot 0 1 4 0 1 1 1 0 0 0 end;chips 0;"), -1);
        Check.due("any two: the first and the third", told("pot 0 1 4 0 1 1 1 end;pot 0 1 4 0 9 1 1 end;"
            + "pot 0 1 4 0 1 1 9 end;"), 3);
        PotHill x = Check.on(THREE + "pot 0 1 4 0 9 9 9 end;pot 0 1 4 0 0 0 0 end;");
        Check.law(x, "9");
        Check.work(x, "pay 0;year;");
        Check.due("as told, OPEN or not", x.tell(), 1);
    }

    /** "NET of a PERSON: what is OWED to him by others less what he owes". */
    private static void net() {
        PotHill x = Check.on(THREE + "pot 0 1 9 0 9 9 9 end;pot 1 2 4 0 9 9 9 end;pot 0 2 1 0 0 0 0 end;");
        Check.due("net(0)", x.net(0), 10);
        Check.due("net(1)", x.net(1), -5);
        Check.due("net(2)", x.net(2), -5);
        Check.work(x, "year;");
        Check.due("VOID is not OWED", x.net(0), 9);
        Check.work(x, "give 0 1 0;");
        Check.due("by others: both halves are his", x.net(0), 0);
        Check.due("net(1)", x.net(1), 4);
    }

    /** "STRUCK: the least that must change hands so that all are even". */
    private static void struck() {
        Check.due("nobody", new PotHill().struck(), 0);
        Check.due("nothing owed", Check.on(THREE).struck(), 0);
        Check.due("one debt", Check.on(THREE + "pot 0 1 9 0 9 9 9 end;").struck(), 9);
        Check.due("a chain: only its ends", Check.on(THREE + "pot 0 1 9 0 9 9 9 end;pot 1 2 9 0 9 9 9 end;").struck(), 9);
        Check.due("a ring: nothing", Check.on(THREE + "pot 0 1 9 0 9 9 9 end;pot 1 2 9 0 9 9 9 end;"
            + "pot 2 0 9 0 9 9 9 end;").struck(), 0);
        Check.due("two who owe one", Check.on(THREE + "pot 0 1 9 0 9 9 9 end;pot 0 2 3 0 9 9 9 end;").struck(), 12);
        Check.due("one who owes two", Check.on(THREE + "pot 1 0 9 0 9 9 9 end;pot 2 0 3 0 9 9 9 end;").struck(), 12);
    }

    private static void ring(String why, String pots, int many, int row) {
        PotHill x = Check.on("person 9;".repeat(6) + pots);
        Check.due(why + ": ring(0)", x.ring(0), many);
        Check.due(why + ": ring(1)", x.ring(1), row);
    }

    /** "RING: the fewest PEOPLE (2 or more) each of whom owes the next, and the last the first; .. NONE". */
    private static void ring() {
        ring("nothing owed", "", -1, -1);
        ring("one debt", "pot 0 1 9 0 9 9 9 end;", -1, -1);
        ring("a chain", "pot 0 1 9 0 9 9 9 end;pot 1 2 9 0 9 9 9 end;pot 0 2 9 0 9 9 9 end;", -1, -1);
        ring("2", "pot 5 4 9 0 9 9 9 end;pot 4 5 9 0 9 9 9 end;", 2, 56);
        // 0 owes 2, 2 owes 1, 1 owes 0.
        ring("3, from the least on", "pot 1 2 9 0 9 9 9 end;pot 0 1 9 0 9 9 9 end;pot 2 0 9 0 9 9 9 end;", 3, 132);
        ring("of 2 and 3 the fewest", "pot 1 2 9 0 9 9 9 end;pot 0 1 9 0 9 9 9 end;pot 2 0 9 0 9 9 9 end;"
            + "pot 4 5 9 0 9 9 9 end;pot 5 4 9 0 9 9 9 end;", 2, 56);
        ring("of alike ones the first", "pot 0 4 9 0 9 9 9 end;pot 4 0 9 0 9 9 9 end;pot 0 3 9 0 9 9 9 end;"
            + "pot 3 0 9 0 9 9 9 end;pot 1 2 9 0 9 9 9 end;pot 2 1 9 0 9 9 9 end;", 2, 14);
        ring("6", "pot 1 0 9 0 9 9 9 end;pot 2 1 9 0 9 9 9 end;pot 3 2 9 0 9 9 9 end;pot 4 3 9 0 9 9 9 end;"
            + "pot 5 4 9 0 9 9 9 end;pot 0 5 9 0 9 9 9 end;", 6, 123456);
        PotHill x = Check.on(THREE + "pot 0 1 9 0 9 9 9 end;pot 1 0 9 0 0 0 0 end;pot 2 1 9 0 9 9 9 end;");
        Check.due("two", x.ring(1), 12);
        Check.work(x, "year;");
        Check.due("VOID breaks it", x.ring(0), -1);
        Check.work(x, "give 2 0 1;");
        Check.due("who owes himself is no ring", x.ring(0), -1);
        Check.due("nor a row", x.ring(1), -1);
    }

    /** "levelled: no more than a bound each, the greatest by which no more than n are given"; "(0: not in DUE)". */
    private static void gets() {
        PotHill x = Check.on(THREE + "pot 0 1 3 0 9 9 9 end;pot 0 1 40 0 9 9 9 end;pot 0 1 5 1 9 9 9 end;"
            + "pot 0 1 5 0 0 0 0 end;");
        Check.due("YEAR 0: not in DUE", x.gets(0, 400), 0);
        Check.work(x, "year;");
        int[] n = {0, 1, 2, 3, 4, 5, 6, 7, 42, 43, 44, 400};
        int[] first = {0, 0, 1, 1, 2, 2, 3, 3, 3, 3, 3, 3};
        int[] second = {0, 0, 1, 1, 2, 2, 3, 4, 39, 40, 40, 40};
        for (int k = 0; k < n.length; k++) {
            Check.due("3 of " + n[k], x.gets(0, n[k]), first[k]);
            Check.due("40 of " + n[k], x.gets(1, n[k]), second[k]);
            Check.due("in Y itself", x.gets(2, n[k]), 0);
            Check.due("VOID", x.gets(3, n[k]), 0);
        }
        Check.work(x, "year;");
        Check.due("behind Y it shares: 3, 4, 4 of 11", x.gets(2, 11), 4);
        Check.due("the second", x.gets(1, 11), 4);
        Check.work(x, "pay 0;");
        Check.due("PAID claims nothing", x.gets(0, 400), 0);
        Check.due("so 5 and 6 of 11", x.gets(1, 11), 6);
    }

    /** Promise 33: "Halves of OPEN POTS that a PERSON holds, as bits; OPEN POTS of which it holds both, as bits". */
    private static void holds() {
        PotHill x = Check.on(THREE + POT.repeat(7) + "pot 1 0 4 0 9 9 9 end;");
        Check.due("halves 0, 2 .. 12, and 15", x.holds(0, 0), 0x1555 | 0x8000);
        Check.due("none", x.holds(2, 0), 0);
        Check.due("both of none", x.holds(0, 1), 0);
        Check.work(x, "give 7 0 0;give 0 1 0;pay 6;");
        Check.due("both of 0 and 7", x.holds(0, 1), 129);
        Check.due("PAID is not OPEN", x.holds(0, 0), 0x0555 | 0xC002);
        Check.due("1 holds the rest", x.holds(1, 0), 0x0aa8);
        PotHill y = Check.on(THREE + "pot 0 1 4 0 0 0 0 end;");
        Check.work(y, "give 0 0 1;year;");
        Check.due("VOID is not OPEN", y.holds(1, 0), 0);
        Check.due("nor so", y.holds(1, 1), 0);
    }

    /** Promise 34: "least deep now (what 0), deepest (1), of these the first". */
    private static void deep() {
        PotHill x = Check.on(THREE + "pot 0 1 4 0 5 5 5 end;pot 0 1 4 0 9 0 9 0 9 0 end;pot 0 1 4 0 5 6 4 end;");
        Check.due("all alike: the first", x.deep(0, 0), 0);
        Check.due("all alike: the first", x.deep(1, 1), 0);
        Check.due("the first of three", x.deep(2, 0), 1);
        Check.due("the first of three", x.deep(3, 1), 0);
        Check.due("the last", x.deep(4, 0), 2);
        Check.due("the middle", x.deep(5, 1), 1);
        Check.law(x, "half * place * 9");
        Check.work(x, "pay 0;year;year;");
        Check.due("PAID, as it was", x.deep(1, 0), 0);
        Check.due("now, half 1", x.deep(5, 0), 1);
        Check.due("now, half 0", x.deep(4, 0), 2);
        PotHill y = Check.on(THREE + "pot 0 1 4 0 0 0 0 end;");
        Check.work(y, "year;");
        Check.due("VOID", y.deep(1, 1), 0);
    }

    /** Promise 35: "In so many YEARS (0 to 100), nothing being done: 0 OPEN, 1 VOID, 2 OPEN ones that MEET". */
    private static void ahead() {
        PotHill x = Check.on(THREE + POT + "pot 0 1 4 0 5 5 5 end;pot 0 1 4 0 0 0 0 end;chips 3;");
        Check.due("0: now", x.ahead(0, 0), 3);
        Check.due("0: now", x.ahead(0, 1), 0);
        Check.due("0: now", x.ahead(0, 2), 3);
        Check.law(x, "half");
        int[] years = {1, 2, 4, 5, 8, 9, 100};
        int[] open = {2, 2, 2, 1, 1, 0, 0};
        int[] meet = {2, 0, 0, 0, 0, 0, 0};
        for (int k = 0; k < years.length; k++) {
            Check.due("OPEN in " + years[k], x.ahead(years[k], 0), open[k]);
            Check.due("VOID in " + years[k], x.ahead(years[k], 1), 3 - open[k]);
            Check.due("MEET in " + years[k], x.ahead(years[k], 2), meet[k]);
        }
        Check.law(x, "(year - 98) * 9");
        Check.due("in 99", x.ahead(99, 1), 1);
        Check.due("in 100", x.ahead(100, 1), 3);
        Check.work(x, "pay 0;");
        Check.due("PAID is neither", x.ahead(100, 1), 2);
        Check.due("PAID is neither", x.ahead(99, 0), 1);
        Check.due("nor does it MEET as OPEN", x.ahead(99, 2), 1);
    }

    private static int next(int seed) {
        return seed * 1103515245 + 12345;
    }

    private static int drawn(int seed, int by) {
        return (seed >>> 16 & 0x7fff) % by;
    }

    /** A SEED whose first DRAW by 16 is this, and whose second by 8 is that. */
    private static int seedFor(int first, int second) {
        for (int seed = 1; seed < 1000000; seed++) {
            if (drawn(next(seed), 16) == first && drawn(next(next(seed)), 8) == second) {
                return seed;
            }
        }
        return 0;
    }

    /** "DRAW by 16 below Q: a goat kicks COLUMN (DRAW by 8)"; "DRAW: .. its bits 16 to 30, what is left of them". */
    private static void goatsDraw() {
        PotHill x = Check.on("heap 0 5;heap 1 5;heap 2 5;heap 3 5;heap 4 5;heap 5 5;heap 6 5;heap 7 5;steep 9;");
        for (int first = 0; first < 16; first++) {
            int seed = seedFor(first, first % 8);
            for (int q = first; q <= first + 1; q++) {
                Check.due("DRAW " + first + ", Q " + q, x.goats(seed, q, 1, 0), q > first ? 1 : 0);
            }
            Check.due("Q 0: never", x.goats(seed, 0, 1, 0), 0);
            Check.due("Q 16: always", x.goats(seed, 16, 1, 0), 1);
        }
        Check.due("the SEED goes on from YEAR to YEAR", x.goats(3, 16, 100, 0), 100);
        Check.due("SEED 0", x.goats(0, 16, 1, 2), 6);
        Check.due("the least SEED", x.goats(Integer.MIN_VALUE, 16, 1, 2), 6);
        Check.due("the greatest", x.goats(Integer.MAX_VALUE, 16, 1, 2), 6);
    }

    /** "its top shard, if there is one, falls on the lower one of both beside it (of alike ones the left; at the rim ..)". */
    private static void goatsFall() {
        int[] kicked = {3, 3, 3, 0, 7, 3, 3};
        String[] heaps = {"heap 3 1;heap 2 1;heap 4 2;", "heap 3 1;heap 2 2;heap 4 1;", "heap 3 1;heap 2 1;heap 4 1;",
            "heap 0 1;heap 1 4;heap 7 0;", "heap 7 1;heap 6 4;heap 0 0;", "heap 2 1;heap 4 1;", "heap 3 1;"};
        int[] lands = {2, 4, 2, 1, 6, -1, 2};
        for (int k = 0; k < heaps.length; k++) {
            PotHill x = Check.on(THREE + POT + heaps[k] + "steep 9;");
            boolean falls = lands[k] >= 0;
            if (falls) {
                Check.work(x, "throw 0 " + kicked[k] + ";");
            }
            int seed = seedFor(0, kicked[k]);
            Check.due(heaps[k] + " falls", x.goats(seed, 1, 1, 0), falls ? 1 : 0);
            Check.due(heaps[k] + " does not lie there any more", x.span(seed, 1, 1, 1, 2, 0), 0);
            Check.due(heaps[k] + " nothing slides", x.goats(seed, 1, 1, 1), 0);
            int high = 0;
            for (int column = 0; column < 8; column++) {
                high = Math.max(high, x.height(column) - (falls && column == kicked[k] ? 1 : 0) + (column == lands[k] ? 1 : 0));
            }
            Check.due(heaps[k] + " the highest then", x.goats(seed, 1, 1, 2), high);
        }
    }

    /** Promise 36: "0 kicks by which a shard fell, 1 how often a shard slid, 2 the height of the highest, 3 VOID then". */
    private static void goatsCount() {
        PotHill x = Check.on(THREE + "pot 0 1 4 0 3 3 3 end;heap 3 2;heap 2 2;heap 1 2;heap 0 2;steep 2;");
        Check.law(x, "1");
        int seed = seedFor(0, 0);
        // From COLUMN 0 onto COLUMN 1: 1 3 2 2, which is no more than 2 apart.
        Check.due("a shard fell", x.goats(seed, 1, 1, 0), 1);
        Check.due("none slid", x.goats(seed, 1, 1, 1), 0);
        Check.due("the highest", x.goats(seed, 1, 1, 2), 3);
        seed = seedFor(0, 2);
        // From COLUMN 2 onto COLUMN 1: 2 3 1 2.
        Check.due("the highest", x.goats(seed, 1, 1, 2), 3);
        PotHill y = Check.on("heap 0 1;heap 1 1;heap 2 1;steep 1;");
        seed = seedFor(0, 2);
        Check.due("a kick into the empty COLUMN 3", y.goats(seed, 1, 1, 1), 0);
        seed = seedFor(0, 1);
        // From COLUMN 1 onto COLUMN 0: 2 0 1, which slides back.
        Check.due("it slides back", y.goats(seed, 1, 1, 1), 1);
        Check.due("as high as it was", y.goats(seed, 1, 1, 2), 1);
        Check.due("one shard fell by the kick", y.goats(seed, 1, 1, 0), 1);
        Check.due("an empty heap", new PotHill().goats(seed, 16, 100, 2), 0);
        Check.due("nothing fell", new PotHill().goats(seed, 16, 100, 0), 0);
        Check.due("VOID in 2", x.goats(seed, 16, 2, 3), 0);
        Check.due("VOID in 3", x.goats(seed, 16, 3, 3), 1);
        Check.due("VOID in 100, no goat", x.goats(seed, 0, 100, 3), 1);
    }

    /** Promise 37: "Of so many SEEDS (1 to 20; seed, seed and 1, ..)". */
    private static void span() {
        PotHill x = Check.on(THREE + POT + POT + "heap 0 1;heap 1 1;heap 2 1;steep 1;");
        Check.work(x, "throw 1 7;");
        for (int many = 1; many <= 20; many++) {
            int fewest = 999;
            int most = -1;
            int same = 0;
            for (int k = 0; k < many; k++) {
                fewest = Math.min(fewest, x.goats(40 + k, 8, 3, 1));
                most = Math.max(most, x.goats(40 + k, 8, 3, 1));
                same += x.span(40 + k, 1, 8, 3, 2, 1);
            }
            Check.due("the fewest of " + many, x.span(40, many, 8, 3, 0, 0), fewest);
            Check.due("the most of " + many, x.span(40, many, 8, 3, 1, 0), most);
            Check.due("the same COLUMN of " + many, x.span(40, many, 8, 3, 2, 1), same);
        }
        Check.due("not thrown", x.span(40, 20, 0, 1, 2, 0), 0);
        Check.due("thrown, and no goat", x.span(40, 20, 0, 100, 2, 1), 20);
        Check.due("SEEDS wrap", x.span(Integer.MAX_VALUE, 2, 8, 3, 2, 1),
            x.span(Integer.MAX_VALUE, 1, 8, 3, 2, 1) + x.span(Integer.MIN_VALUE, 1, 8, 3, 2, 1));
    }
}
