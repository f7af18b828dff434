import java.util.Random;

/** Promises 24 to 28, 33 and 34: what a thumb feels, forged halves, pots told apart, who holds what. */
public final class HalfTest {
    private static final String TWO = "person 50;person 50;";

    public static void main(String[] args) {
        fits();
        feel();
        forge();
        forgeByTrying();
        easiest();
        tell();
        holds();
        deep();
        Check.end("HalfTest");
    }

    private static void fits() {
        PotHill x = Check.on(TWO + "pot 0 1 1 1 5 3 7 end;pot 0 1 1 1 5 3 7 2 end;pot 0 1 1 1 5 4 7 end;chips 20;");
        Check.due("without lines all fit", x.fits(), 63);
        Check.thumb(x, "0 5;1 3;");
        Check.due("two pots", x.fits(), 15);
        Check.thumb(x, "0 5;3 2;");
        Check.due("a PLACE it has not: never", x.fits(), 12);
        Check.thumb(x, "3 0;");
        Check.due("nor 0 deep", x.fits(), 0);
        Check.thumb(x, "0 4;");
        Check.due("a wrong line of PLACE 0", x.fits(), 0);
        Check.thumb(x, "1 3;");
        Check.law(x, "half");
        Check.work(x, "year;");
        Check.due("worn halves: half 1 of pot 2 is 3 deep now", x.fits(), 1 + 4 + 32);
        Check.work(x, "pay 0;");
        Check.due("OPEN ones alone", x.fits(), 4 + 32);
    }

    private static void feel() {
        PotHill x = Check.on(TWO + "pot 0 1 1 1 1 2 3 end;pot 0 1 1 1 1 4 3 9 end;pot 0 1 1 1 1 6 4 end;");
        Check.due("PLACE 1 tells them apart", x.feel(0), 1);
        Check.due("two at the worst", x.feel(1), 2);
        Check.thumb(x, "1 4;");
        Check.due("the first of alike ones", x.feel(0), 0);
        Check.due("both left", x.feel(1), 2);
        Check.thumb(x, "1 5;");
        Check.due("none fits", x.feel(1), 0);
        Check.thumb(x, "0 1;1 1;2 1;3 1;4 1;5 1;");
        Check.due("all PLACES in lines", x.feel(0), -1);
        Check.due("so NONE", x.feel(1), -1);
        Check.none("feel(2)", () -> x.feel(2));
        Check.none("feel(-1)", () -> x.feel(-1));
        PotHill y = Check.on(TWO + "pot 0 1 1 1 1 2 3 end;pot 0 1 1 1 1 2 3 0 end;");
        Check.due("nothing felt is an answer, too, and not 0 deep", y.feel(0), 3);
        Check.due("two left", y.feel(1), 2);
        PotHill z = Check.on(TWO + "pot 0 1 1 1 5 5 5 end;chips 20;");
        Check.law(z, "half * place");
        Check.work(z, "year;");
        Check.due("its halves differ at PLACE 1", z.feel(0), 1);
        Check.due("one left", z.feel(1), 1);
    }

    private static void forge() {
        PotHill x = Check.on(TWO + "pot 0 1 1 1 5 3 7 end;pot 0 1 1 1 1 1 1 1 end;pot 0 1 1 1 9 0 9 end;chips 3;");
        Check.due("too shallow by 6", x.forge(0, 4), -1);
        Check.due("6 too deep, 3 too shallow", x.forge(4, 0), 6);
        Check.due("the same", x.forge(0, 0), 0);
        Check.due("the other half", x.forge(0, 1), 0);
        Check.due("not as many PLACES", x.forge(0, 2), -1);
        Check.due("nor so", x.forge(2, 0), -1);
        Check.noSuch("forge(6, 0)", () -> x.forge(6, 0));
        Check.noSuch("forge(0, 6)", () -> x.forge(0, 6));
        Check.noSuch("forge(-1, 0)", () -> x.forge(-1, 0));
        Check.noSuch("forge(0, -1)", () -> x.forge(0, -1));
        Check.work(x, "pay 0;");
        Check.due("OPEN or not", x.forge(4, 0), 6);
    }

    /** The fewest chips, found by trying every way to chip three places. */
    private static void forgeByTrying() {
        Random random = new Random(5);
        for (int k = 0; k < 40; k++) {
            int[] a = {random.nextInt(10), random.nextInt(10), random.nextInt(10)};
            int[] b = {random.nextInt(10), random.nextInt(10), random.nextInt(10)};
            int chips = random.nextInt(21);
            PotHill x = Check.on(TWO + "pot 0 1 1 1 " + a[0] + " " + a[1] + " " + a[2] + " end;pot 0 1 1 1 "
                + b[0] + " " + b[1] + " " + b[2] + " end;chips " + chips + ";");
            int best = -1;
            for (int all = 0; all < 1000; all++) {
                int[] off = {all % 10, all / 10 % 10, all / 100};
                int apart = 0;
                boolean can = true;
                for (int place = 0; place < 3; place++) {
                    can &= off[place] <= a[place];
                    apart += Math.abs(a[place] - off[place] - b[place]);
                }
                int many = off[0] + off[1] + off[2];
                if (can && apart <= chips && (best < 0 || many < best)) {
                    best = many;
                }
            }
            Check.due("forge(0, 2) no. " + k, x.forge(0, 2), best);
        }
    }

    private static void easiest() {
        PotHill x = Check.on(TWO + "pot 0 1 1 1 9 9 9 end;pot 0 1 1 1 5 5 5 end;pot 0 1 1 1 7 7 7 end;"
            + "pot 0 1 1 1 5 5 5 5 end;chips 2;");
        Check.due("its other half", x.easiest(0), 1);
        Check.due("and back", x.easiest(1), 0);
        Check.due("the other of pot 3", x.easiest(6), 7);
        Check.work(x, "pay 0;");
        Check.due("OPEN ones: pot 2 by 4 chips", x.easiest(0), 4);
        Check.work(x, "pay 2;");
        Check.due("pot 1 by 10, its half 0 the least", x.easiest(1), 2);
        Check.due("pot 1 too shallow", x.forge(2, 4), -1);
        Check.work(x, "pay 1;");
        Check.due("none", x.easiest(0), -1);
        Check.noSuch("easiest(8)", () -> x.easiest(8));
        Check.noSuch("easiest(-1)", () -> x.easiest(-1));
    }

    private static void tell() {
        Check.due("no pots", new PotHill().tell(), 1);
        Check.due("one pot", Check.on(TWO + "pot 0 1 1 1 9 9 9 end;chips 20;").tell(), 1);
        String three = TWO + "pot 0 1 1 1 5 3 7 end;pot 0 1 1 1 1 1 1 1 end;pot 0 1 1 1 9 0 9 end;";
        Check.due("2 T is 6: only by 3 places above it", Check.on(three + "chips 3;").tell(), 3);
        Check.due("2 T is 0", Check.on(three + "chips 0;").tell(), 1);
        Check.due("2 T is 16", Check.on(three + "chips 8;").tell(), -1);
        String four = TWO + "pot 0 1 1 1 5 3 7 end;pot 0 1 1 1 5 3 7 0 0 4 end;";
        Check.due("a PLACE there is not: 0 deep", Check.on(four + "chips 1;").tell(), 6);
        Check.due("not above 4", Check.on(four + "chips 2;").tell(), -1);
        PotHill x = Check.on(four + "chips 1;");
        Check.law(x, "9");
        Check.work(x, "pay 0;year;");
        Check.due("as told, whatever was done", x.tell(), 6);
    }

    private static void holds() {
        PotHill x = Check.on(TWO + "person 9;pot 0 1 1 1 1 1 1 end;pot 1 0 1 1 1 1 1 end;pot 0 1 1 1 1 1 1 end;");
        Check.due("halves 0, 3 and 4", x.holds(0, 0), 1 + 8 + 16);
        Check.due("both of none", x.holds(0, 1), 0);
        Check.work(x, "give 0 1 0;give 2 0 2;give 2 1 2;");
        Check.due("0, 1 and 3", x.holds(0, 0), 1 + 2 + 8);
        Check.due("both of pot 0", x.holds(0, 1), 1);
        Check.due("both of pot 2", x.holds(2, 1), 4);
        Check.work(x, "give 1 0 0;");
        Check.due("both of pots 0 and 1", x.holds(0, 1), 3);
        x.undo();
        Check.work(x, "pay 2;");
        Check.due("PAID does not count", x.holds(2, 0), 0);
        Check.due("nor so", x.holds(2, 1), 0);
        Check.noSuch("holds(3, 2): the PERSON comes ahead", () -> x.holds(3, 2));
        Check.noSuch("holds(-1, 0)", () -> x.holds(-1, 0));
        Check.none("holds(0, 2)", () -> x.holds(0, 2));
        Check.none("holds(0, -1)", () -> x.holds(0, -1));
    }

    private static void deep() {
        PotHill x = Check.on(TWO + "pot 0 1 1 1 5 3 7 3 7 end;");
        Check.due("least", x.deep(0, 0), 1);
        Check.due("most", x.deep(1, 1), 2);
        Check.law(x, "half * (place / 2) * 9");
        Check.work(x, "year;");
        Check.due("now PLACE 2 is least", x.deep(1, 0), 2);
        Check.due("and PLACE 0 deepest", x.deep(1, 1), 0);
        Check.due("half 0 is whole", x.deep(0, 1), 2);
        PotHill y = Check.on(TWO + "pot 0 1 1 1 5 3 7 end;pot 0 1 1 1 5 5 4 5 3 6 end;");
        Check.due("deeper by one", y.deep(2, 1), 5);
        Check.due("the 5th of 6", y.deep(3, 0), 4);
        Check.noSuch("deep(2, 2)", () -> x.deep(2, 2));
        Check.noSuch("deep(-1, 0)", () -> x.deep(-1, 0));
        Check.none("deep(0, 2)", () -> x.deep(0, 2));
        Check.none("deep(0, -1)", () -> x.deep(0, -1));
    }
}
