/** Promises 5 and 8 to 16: what steps change and refuse, what is told of people and pots, and undo. */
public final class WorkTest {
    private static final String THREE = "person 10;person 20;person 5;";

    public static void main(String[] args) {
        told();
        pots();
        depths();
        pays();
        payRefusals();
        gives();
        years();
        dueAndVoid();
        meets();
        lasts();
        owes();
        undoes();
        Check.end("WorkTest");
    }

    private static void told() {
        PotHill x = Check.on(THREE + "pot 0 1 4 0 5 5 5 end;pot 1 2 6 3 1 1 1 end;pot 2 0 9 9 9 9 9 end;heap 1 2;");
        Check.law(x, "1");
        Check.thumb(x, "1 1;");
        Check.work(x, "pay 0;pay 0;throw 1 5;again 2[year;];dig 7;");
        int[] want = {3, 3, 2, 1, 1, 1, 0, 3, 1, 2};
        for (int what = 0; what <= 9; what++) {
            Check.due("told(" + what + ")", x.told(what), want[what]);
        }
        Check.none("told(-1)", () -> x.told(-1));
        Check.none("told(10)", () -> x.told(10));
        Check.due("has(0): 10 and 4", x.has(0), 14);
        Check.due("has(1): 20 less 4", x.has(1), 16);
        Check.noSuch("has(3)", () -> x.has(3));
        Check.noSuch("has(-1)", () -> x.has(-1));
    }

    private static void pots() {
        PotHill x = Check.on(THREE + "pot 0 1 4 7 5 6 7 8 end;chips 20;");
        Check.law(x, "half * 2");
        Check.work(x, "year;give 0 0 2;throw 0 6;");
        int[] want = {4, 7, 4, 0, 2, 1, 8, 6};
        for (int what = 0; what <= 7; what++) {
            Check.due("pot(0, " + what + ")", x.pot(0, what), want[what]);
        }
        Check.noSuch("pot(1, 8): no such pot comes ahead", () -> x.pot(1, 8));
        Check.noSuch("pot(-1, 0)", () -> x.pot(-1, 0));
        Check.none("pot(0, 8)", () -> x.pot(0, 8));
        Check.none("pot(0, -1)", () -> x.pot(0, -1));
        Check.work(x, "pay 0;");
        Check.due("PAID", x.pot(0, 3), 1);
        PotHill y = Check.on(THREE + "pot 0 1 4 7 0 0 0 end;");
        Check.due("all 0, but OPEN at first", y.pot(0, 3), 0);
        Check.work(y, "year;");
        Check.due("VOID", y.pot(0, 3), 2);
        Check.due("not thrown", y.pot(0, 7), -1);
    }

    private static void depths() {
        PotHill x = Check.on(THREE + "pot 0 1 4 7 5 6 7 end;pot 0 1 4 7 1 2 3 4 5 6 end;");
        for (int place = 0; place < 6; place++) {
            Check.due("depth", x.depth(1, place % 2, place), place + 1);
        }
        Check.noSuch("PLACE 3 of 3", () -> x.depth(0, 0, 3));
        Check.noSuch("PLACE 6", () -> x.depth(1, 0, 6));
        Check.noSuch("PLACE -1", () -> x.depth(0, 0, -1));
        Check.noSuch("half 2", () -> x.depth(0, 2, 0));
        Check.noSuch("half -1", () -> x.depth(0, -1, 0));
        Check.noSuch("pot 2", () -> x.depth(2, 0, 0));
        Check.noSuch("pot -1", () -> x.depth(-1, 0, 0));
        Check.due("refused", x.status(0), 7);
    }

    private static void pays() {
        secondPot();
        PotHill x = Check.on(THREE + "pot 0 1 20 7 5 6 7 end;");
        Check.due("all one has", Check.work(x, "pay 0;"), 1);
        Check.due("has(0)", x.has(0), 30);
        Check.due("has(1)", x.has(1), 0);
        x = Check.on(THREE + "pot 0 1 4 7 5 6 7 end;");
        Check.due("holders, not the first two, pay", Check.work(x, "give 0 0 1;give 0 1 2;pay 0;"), 3);
        Check.due("has(0)", x.has(0), 10);
        Check.due("has(1)", x.has(1), 24);
        Check.due("has(2)", x.has(2), 1);
        x = Check.on(THREE + "pot 0 1 4 7 5 6 7 end;");
        Check.due("both halves with one", Check.work(x, "give 0 1 0;pay 0;"), 2);
        Check.due("has(0) as it was", x.has(0), 10);
        Check.due("PAID", x.told(4), 1);
    }

    private static void secondPot() {
        PotHill x = Check.on("person 0;person 20;person 5;person 7;pot 0 1 1 7 5 6 7 end;pot 2 3 4 7 5 6 7 end;"
            + "pot 1 3 2 9 9 9 9 end;chips 20;");
        Check.law(x, "half * 2");
        Check.work(x, "year;give 2 0 0;pay 1;");
        Check.due("half 0 of pot 1", x.pot(1, 4), 2);
        Check.due("half 1 of pot 1", x.pot(1, 5), 3);
        Check.due("half 0 of pot 2", x.pot(2, 4), 0);
        Check.due("half 1 of pot 2", x.pot(2, 5), 3);
        Check.due("6 apart", x.pot(2, 6), 6);
        Check.due("has(0)", x.has(0), 0);
        Check.due("has(2)", x.has(2), 9);
        Check.due("has(3)", x.has(3), 3);
    }

    private static void payRefusals() {
        PotHill x = Check.on(THREE + "pot 0 1 21 7 5 6 7 end;pot 0 1 1 7 3 3 3 end;chips 2;");
        Check.due("too little", Check.work(x, "pay 0;"), 0);
        Check.due("nothing changes", x.has(1), 20);
        Check.law(x, "half");
        Check.due("halves 3 apart", Check.work(x, "year;pay 1;"), 1);
        Check.due("still OPEN", x.pot(1, 3), 0);
        x = Check.on(THREE + "pot 0 1 1 7 3 3 3 end;chips 3;");
        Check.law(x, "half");
        Check.due("halves 3 apart, 3 may be", Check.work(x, "year;pay 0;pay 0;"), 2);
        Check.due("the second was REFUSED", x.told(9), 1);
        Check.due("PAID but once", x.has(1), 19);
        x = Check.on(THREE + "pot 0 1 1 7 0 0 0 end;");
        Check.due("VOID is not paid", Check.work(x, "year;pay 0;"), 1);
    }

    private static void gives() {
        PotHill x = Check.on(THREE + "pot 0 1 4 0 9 9 9 end;chips 20;");
        Check.law(x, "age");
        Check.due("to its own holder", Check.work(x, "give 0 0 0;give 0 1 1;"), 0);
        Check.work(x, "year;year;give 0 1 2;year;year;");
        // Half 0 has worn 0 + 1 + 2 + 3, half 1 only 0 + 1 and again 0 + 1.
        Check.due("half 0", x.depth(0, 0, 0), 3);
        Check.due("half 1", x.depth(0, 1, 0), 7);
        Check.due("PAID is not given", Check.work(x, "pay 0;give 0 0 1;"), 1);
        x = Check.on(THREE + "pot 0 1 4 0 0 0 0 end;");
        Check.due("VOID is not given", Check.work(x, "year;give 0 0 1;"), 1);
    }

    private static void years() {
        PotHill x = Check.on(THREE + "pot 0 1 4 1 9 9 9 end;chips 20;");
        Check.law(x, "year + due * 3");
        // Year 0: 0; year 1: 1, not yet behind Y; year 2: 2 and 3.
        Check.work(x, "year;");
        Check.due("by year 0", x.depth(0, 0, 0), 9);
        Check.work(x, "year;");
        Check.due("by year 1", x.depth(0, 0, 0), 8);
        Check.work(x, "year;");
        Check.due("by year 2", x.depth(0, 0, 0), 3);
        x = Check.on(THREE + "pot 0 1 4 1 9 1 5 end;chips 20;");
        Check.law(x, "depth / 2 + place");
        Check.work(x, "year;");
        Check.due("9 less 4", x.depth(0, 0, 0), 5);
        Check.due("1 less 1 at most", x.depth(0, 0, 1), 0);
        Check.due("5 less 4", x.depth(0, 1, 2), 1);
        Check.work(x, "pay 0;year;");
        Check.due("PAID wears no more", x.depth(0, 0, 0), 5);
        Check.law(x, "0 - 3");
        Check.work(x, "year;");
        Check.due("none grows", x.depth(0, 0, 0), 5);
    }

    private static void dueAndVoid() {
        PotHill x = Check.on(THREE + "pot 0 1 4 1 9 9 9 end;pot 1 2 1 0 0 0 2 end;");
        Check.law(x, "half");
        Check.work(x, "year;");
        Check.due("one is behind Y", x.told(6), 1);
        Check.work(x, "year;");
        Check.due("the second is VOID by its half 1, the first is DUE", x.told(6), 1);
        Check.due("VOID", x.pot(1, 3), 2);
        Check.due("half 0 is whole", x.depth(1, 0, 2), 2);
        Check.work(x, "year;");
        Check.due("VOID wears no more", x.depth(1, 0, 2), 2);
        x = Check.on(THREE + "pot 0 1 4 0 9 9 9 end;");
        Check.work(x, "year;");
        Check.due("DUE", x.told(6), 1);
        Check.work(x, "pay 0;");
        Check.due("PAID is not DUE", x.told(6), 0);
    }

    private static void meets() {
        PotHill x = Check.on(THREE + "pot 0 1 4 1 2 2 2 end;chips 3;");
        Check.law(x, "half");
        Check.due("at first", x.meets(0) ? 1 : 0, 1);
        Check.work(x, "year;");
        Check.due("3 apart", x.meets(0) ? 1 : 0, 1);
        Check.work(x, "year;");
        Check.due("6 apart", x.meets(0) ? 1 : 0, 0);
        Check.noSuch("meets(1)", () -> x.meets(1) ? 1 : 0);
        Check.noSuch("meets(-1)", () -> x.meets(-1) ? 1 : 0);
    }

    private static void lasts() {
        PotHill x = Check.on(THREE + "pot 0 1 4 1 9 9 9 end;pot 0 1 4 1 9 9 9 end;chips 5;");
        Check.due("without a law", x.lasts(0), -1);
        Check.law(x, "1");
        Check.due("VOID in 9", x.lasts(0), 9);
        Check.law(x, "half");
        Check.due("3 apart, then 6", x.lasts(0), 2);
        Check.law(x, "(year - 198) * 9");
        Check.due("the law bites in year 199", x.lasts(0), 200);
        Check.law(x, "(year - 199) * 9");
        Check.due("200 at most", x.lasts(0), -1);
        Check.work(x, "year;");
        Check.due("one nearer, beyond 200", x.lasts(0), 200);
        Check.law(x, "half");
        Check.work(x, "pay 0;year;");
        Check.due("PAID lasts", x.lasts(0), -1);
        Check.due("the other", x.lasts(1), 1);
        Check.work(x, "year;");
        Check.due("now", x.lasts(1), 0);
        Check.law(x, "9");
        Check.work(x, "year;");
        Check.due("VOID now", x.lasts(1), 0);
        Check.noSuch("lasts(2)", () -> x.lasts(2));
        Check.noSuch("lasts(-1)", () -> x.lasts(-1));
    }

    private static void owes() {
        PotHill x = Check.on(THREE + "pot 0 1 4 1 9 9 9 end;pot 0 1 5 1 9 9 9 end;pot 1 0 2 1 9 9 9 end;");
        Check.due("together", x.owed(1, 0), 9);
        Check.due("the other way", x.owed(0, 1), 2);
        Check.work(x, "give 0 1 0;");
        Check.due("one less", x.owed(1, 0), 5);
        Check.due("one to himself", x.owed(0, 0), 0);
        Check.work(x, "pay 1;");
        Check.due("PAID is not owed", x.owed(1, 0), 0);
        Check.noSuch("owed(3, 0)", () -> x.owed(3, 0));
        Check.noSuch("owed(0, 3)", () -> x.owed(0, 3));
        Check.noSuch("owed(-1, 0)", () -> x.owed(-1, 0));
    }

    private static void undoes() {
        PotHill x = Check.on(THREE + "pot 0 1 4 1 9 9 9 end;heap 3 1;");
        Check.law(x, "2");
        Check.work(x, "year;throw 0 3;give 0 1 2;");
        Check.work(x, "pay 0;dig 3;dig 0;");
        Check.due("refused", x.told(9), 1);
        Check.due("undo()", x.undo(), 1);
        Check.due("none refused then", x.told(9), 0);
        Check.due("OPEN again", x.pot(0, 3), 0);
        Check.due("has(2)", x.has(2), 5);
        Check.due("third shard", x.pot(0, 7), 3);
        Check.due("undo()", x.undo(), 0);
        Check.due("the year", x.told(2), 0);
        Check.due("the depth", x.depth(0, 0, 0), 9);
        Check.due("the holder", x.pot(0, 5), 1);
        Check.due("the heap", x.height(3), 1);
        Check.due("no more", x.undo(), -1);
        Check.due("the law stays", x.would(9, 0, 0, 0, 0, 0), 2);
    }
}
