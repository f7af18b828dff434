/** Everything at the document's limits at once: 8 people in a ring, 8 pots of 6 places, 80 shards, texts of full length. */
public final class FullTest {
    public static void main(String[] args) {
        PotHill x = Check.on(fullHill());
        debts(x);
        halves(x);
        heap(x);
        years(x);
        fullTexts();
        longestLaw();
        Check.end("FullTest");
    }

    /** Person p owes the next one 40 by pot p. */
    static String fullHill() {
        StringBuilder text = new StringBuilder("person 99;".repeat(8));
        for (int p = 0; p < 8; p++) {
            text.append("pot ").append((p + 1) % 8).append(' ').append(p).append(" 40 0 9 9 9 9 9 ").append(p)
                .append(" end;heap ").append(p).append(" 9;");
        }
        return text.append("chips 1;steep 9;").toString();
    }

    private static void debts(PotHill x) {
        Check.due("ring(0)", x.ring(0), 8);
        Check.due("ring(1)", x.ring(1), 12345678);
        Check.due("struck()", x.struck(), 0);
        for (int p = 0; p < 8; p++) {
            Check.due("owed", x.owed(p, (p + 1) % 8), 40);
            Check.due("net", x.net(p), 0);
            Check.due("holds", x.holds(p, 0), 2 << 2 * p | 1 << 2 * ((p + 7) % 8));
            Check.due("both", x.holds(p, 1), 0);
        }
        Check.work(x, "year;");
        for (int p = 0; p < 8; p++) {
            Check.due("of 319", x.gets(p, 319), 39);
            Check.due("of 320", x.gets(p, 320), 40);
            Check.due("has", x.has(p), 99);
        }
        Check.due("DUE", x.told(6), 8);
        Check.due("undo()", x.undo(), 0);
        Check.work(x, "pay 0;pay 1;pay 2;pay 3;pay 4;pay 5;pay 6;");
        Check.due("one is left: struck()", x.struck(), 40);
        Check.due("no ring", x.ring(0), -1);
        Check.due("has(0) paid 40", x.has(0), 59);
        Check.due("has(7) got 40", x.has(7), 139);
        Check.due("undo()", x.undo(), 0);
    }

    private static void halves(PotHill x) {
        Check.due("all fit", x.fits(), 65535);
        Check.due("PLACE 5 tells", x.feel(0), 5);
        Check.due("two left", x.feel(1), 2);
        Check.due("T is 1: pots 0 and 1 are 1 apart, never more than 2", x.tell(), -1);
        Check.due("half 15 for half 0", x.forge(15, 0), 6);
        Check.due("too shallow", x.forge(0, 15), -1);
        Check.due("half 12 of itself", x.easiest(12), 10);
        Check.due("half 0: its other half", x.easiest(0), 1);
        for (int half = 0; half < 16; half++) {
            Check.due("least deep", x.deep(half, 0), 5);
            Check.due("deepest", x.deep(half, 1), 0);
        }
    }

    private static void heap(PotHill x) {
        Check.work(x, "throw 0 7;throw 1 7;throw 2 7;throw 3 7;throw 4 7;throw 5 7;throw 6 7;throw 7 7;");
        Check.due("80 shards", x.told(7), 80);
        Check.due("17 in a column", x.height(7), 17);
        Check.due("order()", x.order(), 81234567);
        Check.due("one more", x.tossed(7, 0), 0);
        Check.due("nothing slides", x.safe(), 255);
        Check.due("baskets", x.baskets(0), 8);
        Check.due("all the same", x.span(1, 20, 0, 100, 2, 7), 20);
        Check.due("kicks by which a shard fell", x.goats(1, 16, 100, 0), 100);
    }

    private static void years(PotHill x) {
        Check.law(x, "half + place * 0");
        Check.due("1 apart is 1, 6 apart is too much", x.lasts(7), 1);
        Check.due("none meets", x.ahead(1, 2), 0);
        Check.due("VOID in 9", x.ahead(9, 1), 8);
        Check.due("by goats, too", x.goats(5, 16, 9, 3), 8);
        Check.due("8 OPEN in 8", x.ahead(8, 0), 8);
    }

    private static void fullTexts() {
        PotHill x = new PotHill();
        Check.fault(x, "600 blanks", Check.hill(x, " ".repeat(600)), 0, -1);
        Check.fault(x, "594 digits", Check.hill(x, "chips " + "1".repeat(594)), -8, 6);
        Check.fault(x, "594 zeros", Check.hill(x, "chips " + "0".repeat(594)), -9, 600);
        Check.fault(x, "600 letters", Check.hill(x, "a".repeat(600)), -9, 0);
        Check.fault(x, "a sign at the end", Check.hill(x, " ".repeat(592) + "chips 9;"), 0, -1);
        Check.fault(x, "150 blanks", Check.work(x, " ".repeat(150)), 0, -1);
        Check.fault(x, "30 years", Check.work(x, "year;".repeat(30)), 30, -1);
        Check.fault(x, "60 blanks", Check.thumb(x, " ".repeat(60)), 0, -1);
        Check.fault(x, "long lines", Check.thumb(x, "0".repeat(57) + " 9;"), 1, -1);
    }

    private static void longestLaw() {
        PotHill x = new PotHill();
        Check.fault(x, "75 ones", Check.law(x, "1+".repeat(74) + "1 "), 1, -1);
        Check.due("75 is more than 9", x.would(9, 0, 0, 0, 0, 0), 9);
        Check.fault(x, "differences", Check.law(x, "5" + "+1-1".repeat(37) + " "), 1, -1);
        Check.due("5", x.would(9, 0, 0, 0, 0, 0), 5);
        Check.fault(x, "six open at the right", Check.law(x, "1*(1*(1*(1*(1*(1*(7))))))"), 1, -1);
        Check.due("7", x.would(9, 0, 0, 0, 0, 0), 7);
        Check.fault(x, "seven", Check.law(x, "1*(1*(1*(1*(1*(1*(1*(7)))))))"), -7, 20);
    }
}
