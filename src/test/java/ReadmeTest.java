import java.io.IOException;
import java.nio.file.Files;
import java.nio.file.Path;

/** README.md's example: every row of it stands there as here, and answers what it says. */
public final class ReadmeTest {
    private static String readme = "";

    public static void main(String[] args) throws IOException {
        readme = Files.readString(Path.of("README.md"));
        PotHill x = new PotHill();
        texts(x);
        asks(x);
        row("x.undo();", x.undo(), 0);
        row("x.has(0);", x.has(0), 50);
        Check.end("ReadmeTest");
    }

    private static void texts(PotHill x) {
        row("x.feed(0x68656170, 0x20302039, 0x3b000000, 0, 0);",
            x.feed(0x68656170, 0x20302039, 0x3b000000, 0, 0), 20);
        row("x.hill(9);", x.hill(9), 0);
        row("x.height(0);", x.height(0), 9);
        row("x.hill(put(x, \"person 50; person 20; pot 0 1 10 2 5 3 7 end; heap 3 2;\"));",
            x.hill(Check.put(x, "person 50; person 20; pot 0 1 10 2 5 3 7 end; heap 3 2;")), 1);
        row("x.law(put(x, \"half * age\"));", x.law(Check.put(x, "half * age")), 1);
        row("x.lasts(0);", x.lasts(0), 2);
        row("x.work(put(x, \"year; throw 0 3; pay 0; pay 0;\"));",
            x.work(Check.put(x, "year; throw 0 3; pay 0; pay 0;")), 3);
    }

    private static void asks(PotHill x) {
        row("x.told(9);", x.told(9), 1);
        row("x.has(0);", x.has(0), 60);
        row("x.pot(0, 3);", x.pot(0, 3), 1);
        row("x.pot(0, 7);", x.pot(0, 7), 2);
        row("x.work(put(x, \"pay 1;\"));", x.work(Check.put(x, "pay 1;")), -8);
        row("x.fault();", x.fault(), 4);
        Check.due("x.has(2) (1: NoSuchElementException)", Check.thrown(() -> x.has(2)), 1);
        Check.due("x.told(10) (2: IllegalArgumentException)", Check.thrown(() -> x.told(10)), 2);
        row("x.status(1);", x.status(1), 1);
    }

    private static void row(String call, int got, int want) {
        Check.due(call, got, want);
        String written = "(?s).*\\Q" + call + "\\E +// " + want + "\\b.*";
        Check.due("README.md has '" + call + " // " + want + "'", readme.matches(written) ? 1 : 0, 1);
    }
}
