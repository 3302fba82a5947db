import java.util.NoSuchElementException;

/** What the tests share: scripts told to an object, words as longs, answers beside those that are due. */
abstract class Asking {
    /** What emptyOf() answers where empty() throws. */
    static final int THROWN = -9;

    private static int wrong = 0;
    private static int asked = 0;
    private static String about = "";

    /** The promise, or the sentence of the document, that the answers from now on are asked for. */
    static void about(String what) {
        about = what;
    }

    static void due(String call, long got, long want) {
        asked++;
        if (got != want) {
            wrong++;
            System.out.println(about + ": " + call + " answered " + got + ", due is " + want);
        }
    }

    static void refused(CarriedLetters x, String call, long got, int trouble) {
        due(call, got, -1);
        due(call + ", trouble", x.trouble(), trouble);
    }

    static void answered(CarriedLetters x, String call, long got, long want) {
        due(call, got, want);
        due(call + ", trouble", x.trouble(), 0);
    }

    static void end() {
        System.out.println(asked + " answers asked for, " + wrong + " of them not as due");
        if (wrong != 0) {
            System.exit(1);
        }
    }

    static long word(String letters) {
        long word = 0;
        for (int k = 0; k < letters.length(); k++) {
            word = word << 8 | letters.charAt(k);
        }
        return word;
    }

    /** Five numbers of four bytes each from a place of a text on, blanks behind its end. */
    static int[] twenty(String text, int at) {
        int[] numbers = new int[5];
        for (int k = 0; k < 20; k++) {
            numbers[k / 4] = numbers[k / 4] << 8 | (at + k < text.length() ? text.charAt(at + k) : ' ');
        }
        return numbers;
    }

    static void feed(CarriedLetters x, String text) {
        for (int at = 0; at < text.length(); at += 20) {
            int[] n = twenty(text, at);
            x.feed(n[0], n[1], n[2], n[3], n[4]);
        }
    }

    static int tell(CarriedLetters x, String text) {
        feed(x, text);
        return x.script(text.length());
    }

    static CarriedLetters told(String text) {
        CarriedLetters x = new CarriedLetters();
        int passes = tell(x, text);
        due("script of " + text + " (fault " + x.fault() + " at " + x.where() + ")", passes >= 1 ? 1 : 0, 1);
        return x;
    }

    static void faulty(String text, int fault, int where) {
        CarriedLetters x = new CarriedLetters();
        due("script of " + text, tell(x, text), -1);
        due("trouble of " + text, x.trouble(), 4);
        due("fault of " + text, x.fault(), fault);
        due("where of " + text, x.where(), where);
        due("bytes behind " + text, x.size(0), 0);
    }

    static int emptyOf(CarriedLetters x, int i) {
        try {
            return x.empty(i);
        } catch (NoSuchElementException e) {
            return THROWN;
        }
    }

    /** What comes out of a word; "!" and the trouble of one that is refused. */
    static String outOf(CarriedLetters x, String letters) {
        int n = x.carry(word(letters));
        StringBuilder out = new StringBuilder();
        for (int k = 0; k < n; k++) {
            out.append((char) ('a' + x.out(k)));
        }
        return n < 0 ? "!" + x.trouble() : out.toString();
    }

    static void carries(CarriedLetters x, String letters, String want) {
        String got = outOf(x, letters);
        due("carry " + letters + " (" + got + ", due is " + want + ")", got.equals(want) ? 1 : 0, 1);
    }
}
