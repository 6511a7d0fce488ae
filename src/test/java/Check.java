import java.nio.charset.StandardCharsets;

/** What the tests share: a text is told, what is SHOWN is read, and wrong answers are counted. */
final class Check {
    private static int wrong;
    private static int asked;

    private Check() {
    }

    static void due(String call, long got, long want) {
        asked++;
        if (got != want) {
            wrong++;
            System.out.println(call + " answered " + got + ", due is " + want);
        }
    }

    static void due(String call, boolean got, boolean want) {
        due(call, got ? 1 : 0, want ? 1 : 0);
    }

    static void due(String call, String got, String want) {
        asked++;
        if (!want.equals(got)) {
            wrong++;
            System.out.println(call + " answered " + got + ", due is " + want);
        }
    }

    static boolean isWrong() {
        return wrong > 0;
    }

    static void finish(String name) {
        System.out.println(name + ": " + asked + " answers, " + wrong + " not as due");
        if (wrong > 0) {
            System.exit(1);
        }
    }

    private static int number(byte[] bytes, int at) {
        int number = 0;
        for (int i = at; i < at + 4; i++) {
            number = number << 8 | (i < bytes.length ? bytes[i] & 255 : 0);
        }
        return number;
    }

    /** The text comes behind THE TAPE, which has to be empty. */
    static void tape(OppositePairs x, String text) {
        byte[] bytes = text.getBytes(StandardCharsets.ISO_8859_1);
        for (int at = 0; at < bytes.length; at += 20) {
            due("feed of " + text, x.feed(number(bytes, at), number(bytes, at + 4), number(bytes, at + 8),
                    number(bytes, at + 12), number(bytes, at + 16)), at + 20);
        }
        due("end of " + text, x.end(bytes.length), true);
    }

    static int tell(OppositePairs x, String text) {
        tape(x, text);
        return x.clauses();
    }

    static OppositePairs told(String text) {
        OppositePairs x = new OppositePairs();
        tell(x, text);
        due("fault of " + text, x.fault(0), 0);
        return x;
    }

    static String out(OppositePairs x) {
        StringBuilder all = new StringBuilder();
        for (int i = 0; x.out(i) != OppositePairs.NONE; i++) {
            all.append((char) x.out(i));
        }
        return all.toString();
    }

    /** What is SHOWN of a LITERAL, "none" for NONE. */
    static String show(OppositePairs x, int clause, int k) {
        int length = x.show(clause, k);
        return shownText(x, length);
    }

    static String shown(OppositePairs x, int i, int k) {
        int length = x.shown(i, k);
        return shownText(x, length);
    }

    private static String shownText(OppositePairs x, int length) {
        if (length == OppositePairs.NONE) {
            return "none";
        }
        String text = out(x);
        due("length of " + text, length, text.length());
        return text;
    }
}
