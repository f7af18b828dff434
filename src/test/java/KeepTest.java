/** Promises 8 and 38 to 41: works undone, images, refusals and counts. */
public final class KeepTest {
    private static final String HILL = "person 9;person 9;pot 0 1 1 0 9 9 9 end;heap 3 2;steep 9;";

    public static void main(String[] args) {
        images();
        worksOfImages();
        whatImagesKeep();
        statuses();
        counts();
        Check.end("KeepTest");
    }

    private static void images() {
        PotHill x = Check.on(HILL);
        Check.due("none", x.restore(), -1);
        Check.due("one", x.image(), 1);
        Check.work(x, "year;");
        Check.due("two", x.image(), 2);
        Check.work(x, "year;");
        Check.due("three", x.image(), 3);
        Check.due("not four", x.image(), -1);
        Check.work(x, "year;");
        Check.due("two left", x.restore(), 2);
        Check.due("the latest", x.told(2), 2);
        Check.due("one left", x.restore(), 1);
        Check.due("the one ahead of it", x.told(2), 1);
        Check.work(x, "year;year;year;");
        Check.due("in its stead", x.image(), 2);
        Check.work(x, "year;");
        Check.due("restore()", x.restore(), 1);
        Check.due("year 4", x.told(2), 4);
        Check.due("restore()", x.restore(), 0);
        Check.due("year 0", x.told(2), 0);
        Check.due("no more", x.restore(), -1);
    }

    private static void worksOfImages() {
        PotHill x = Check.on(HILL);
        Check.work(x, "year;");
        Check.work(x, "throw 0 3;");
        x.image();
        x.undo();
        x.undo();
        Check.due("no works", x.count(2), 0);
        Check.work(x, "dig 3;");
        Check.due("restore()", x.restore(), 0);
        Check.due("both works are back", x.count(2), 2);
        Check.due("with the throw", x.pot(0, 7), 3);
        Check.due("which can be undone", x.undo(), 1);
        Check.due("so", x.pot(0, 7), -1);
        Check.due("as can the year", x.undo(), 0);
        Check.due("so", x.told(2), 0);
        Check.due("the heap is whole", x.height(3), 2);
        for (int k = 0; k < 16; k++) {
            Check.work(x, "year;");
        }
        x.image();
        x.undo();
        Check.work(x, "dig 3;");
        Check.due("restore()", x.restore(), 0);
        Check.due("16 works are there", Check.work(x, "dig 3;"), -20);
        for (int k = 15; k >= 0; k--) {
            Check.due("undo()", x.undo(), k);
            Check.due("the year", x.told(2), k);
        }
    }

    private static void whatImagesKeep() {
        PotHill x = Check.on(HILL);
        Check.law(x, "1");
        Check.thumb(x, "0 9;");
        x.image();
        Check.law(x, "2");
        Check.thumb(x, "0 9;1 9;");
        Check.work(x, "year;pay 0;pay 0;throw 0 1;");
        Check.due("refused", x.told(9), 1);
        x.restore();
        Check.due("0 behind restore()", x.told(9), 0);
        Check.due("no law is kept", x.would(9, 0, 0, 0, 0, 0), 2);
        Check.due("no thumb is kept", x.told(8), 2);
        Check.due("OPEN", x.told(3), 1);
        Check.due("has(1)", x.has(1), 9);
        Check.due("depth", x.depth(0, 0, 0), 9);
        Check.due("heap", x.height(1), 0);
        Check.work(x, "pay 0;pay 0;");
        Check.due("there is none, nothing changes", x.restore(), -1);
        Check.due("REFUSED as by the latest work", x.told(9), 1);
    }

    private static void statuses() {
        PotHill x = Check.on(HILL);
        x.image();
        Check.thrown(() -> x.has(7));
        Check.thrown(() -> x.pot(7, 99));
        Check.thrown(() -> x.told(99));
        Check.thrown(() -> x.work(151));
        Check.thrown(() -> x.deep(0, 99));
        Check.due("no such", x.status(0), 2);
        Check.due("none such", x.status(1), 3);
        x.restore();
        Check.due("no IMAGE keeps it", x.status(0), 2);
        Check.hill(x, HILL);
        Check.due("nor does a hill change it", x.status(1), 3);
        Check.due("status(2)", x.status(2), -1);
        Check.due("status(-1)", x.status(-1), -1);
    }

    private static void counts() {
        PotHill x = Check.on(HILL);
        x.image();
        x.image();
        Check.work(x, "year;");
        x.feed(0, 0, 0, 0, 0);
        Check.due("images", x.count(0), 2);
        Check.due("bytes", x.count(1), 20);
        Check.due("works", x.count(2), 1);
        Check.due("count(3)", x.count(3), -1);
        Check.due("count(-1)", x.count(-1), -1);
    }
}
