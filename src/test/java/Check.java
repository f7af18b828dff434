import java.nio.charset.StandardCharsets;
import java.util.NoSuchElementException;

/** What all tests share: texts put on the tape, answers compared, exceptions told apart. */
final class Check {
    private static int asked = 0;
    private static int wrong = 0;

    private Check() {
    }

    interface Call {
        int answer();
    }

    static void due(String what, long got, long want) {
        asked++;
        if (got != want) {
            wrong++;
            System.out.println(what + " answered " + got + ", due is " + want);
        }
    }

    static void noSuch(String what, Call call) {
        due(what + " (1: NoSuchElementException)", thrown(call), 1);
    }

    static void none(String what, Call call) {
        due(what + " (2: IllegalArgumentException)", thrown(call), 2);
    }

    static int thrown(Call call) {
        try {
            call.answer();
            return 0;
        } catch (NoSuchElementException e) {
            return 1;
        } catch (IllegalArgumentException e) {
            return 2;
        } catch (RuntimeException e) {
            System.out.println("the machine threw " + e);
            return 3;
        }
    }

    /** Bytes behind the text fill the last twenty: a call must read its n bytes and no more. */
    static int put(PotHill x, String text) {
        byte[] bytes = text.getBytes(StandardCharsets.ISO_8859_1);
        int rows = (bytes.length + 19) / 20;
        int[] words = new int[rows * 5];
        for (int k = 0; k < rows * 20; k++) {
            int sign = k < bytes.length ? bytes[k] & 255 : '#';
            words[k / 4] |= sign << (24 - 8 * (k % 4));
        }
        for (int row = 0; row < rows; row++) {
            int k = 5 * row;
            x.feed(words[k], words[k + 1], words[k + 2], words[k + 3], words[k + 4]);
        }
        return bytes.length;
    }

    static int hill(PotHill x, String text) {
        return x.hill(put(x, text));
    }

    static int law(PotHill x, String text) {
        return x.law(put(x, text));
    }

    static int work(PotHill x, String text) {
        return x.work(put(x, text));
    }

    static int thumb(PotHill x, String text) {
        return x.thumb(put(x, text));
    }

    static PotHill on(String hill) {
        PotHill x = new PotHill();
        if (hill(x, hill) < 0) {
            due("a test's own hill: " + hill, x.fault(), -1);
        }
        return x;
    }

    /** An answer and the place of the fault behind it. */
    static void fault(PotHill x, String text, int answer, int want, int place) {
        due("'" + text + "'", answer, want);
        due("fault() of '" + text + "'", x.fault(), place);
    }

    static void end(String name) {
        System.out.println(name + ": " + asked + " answers, " + wrong + " not as due");
        if (wrong != 0 || asked == 0) {
            System.exit(1);
        }
    }
}
