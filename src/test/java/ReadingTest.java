import java.util.ArrayDeque;
import java.util.Deque;
import java.util.HashSet;
import java.util.Random;
import java.util.Set;

/** Promises 1 to 9 and the first of 24: THE TAPE, FAULTS, CLAUSES and what is SHOWN of them. */
public final class ReadingTest {
    private static final int NONE = OppositePairs.NONE;

    public static void main(String[] args) {
        newObject();
        tapeComesAndEnds();
        faultsAtTheirPlaces();
        behindTheEnd();
        faultLeavesAllAsItIs();
        clausesComeAndGo();
        clauseTells();
        literalsAreShown();
        looks();
        mutations();
        Check.finish("ReadingTest");
    }

    private static void newObject() {
        OppositePairs x = new OppositePairs();
        for (int what = 0; what <= 8; what++) {
            Check.due("look of a new object", x.look(what), 0);
        }
        Check.due("look(9)", x.look(9), NONE);
        Check.due("look(-1)", x.look(-1), NONE);
        Check.due("fault(0)", x.fault(0), 0);
        Check.due("fault(1)", x.fault(1), NONE);
        Check.due("clause(0, 0)", x.clause(0, 0), NONE);
        Check.due("show(0, 0)", x.show(0, 0), NONE);
        Check.due("out(0)", x.out(0), NONE);
        Check.due("drop(0)", x.drop(0), false);
        Check.due("pure()", x.pure(), 0);
        Check.due("needed()", x.needed(), 0);
        Check.due("clauses() of an empty tape", x.clauses(), 0);
    }

    private static void tapeComesAndEnds() {
        OppositePairs x = new OppositePairs();
        for (int n = 1; n <= 30; n++) {
            Check.due("feed", x.feed(0, -1, Integer.MIN_VALUE, 1, 2), n * 20);
        }
        Check.due("feed beyond 600", x.feed(0, 0, 0, 0, 0), NONE);
        Check.due("look(3)", x.look(3), 600);
        Check.due("end(601)", x.end(601), false);
        Check.due("end(-1)", x.end(-1), false);
        Check.due("end(MIN)", x.end(Integer.MIN_VALUE), false);
        Check.due("end(600)", x.end(600), true);
        Check.due("end(581)", x.end(581), true);
        Check.due("feed beyond 600", x.feed(0, 0, 0, 0, 0), NONE);
        Check.due("look(3)", x.look(3), 581);
        Check.due("end(580)", x.end(580), true);
        Check.due("feed up to 600", x.feed(0, 0, 0, 0, 0), 600);
        Check.due("end(0)", x.end(0), true);
        // The highest byte of a number is the first one.
        Check.due("feed", x.feed(0x70712E72, 0x2E202020, 0x20202020, 0x20202020, 0x20200A0A), 20);
        Check.due("clauses()", x.clauses(), 2);
        Check.due("show", Check.show(x, 0, 0), "pq");
        Check.due("show", Check.show(x, 1, 0), "r");
        Check.due("look(3)", x.look(3), 0);
    }

    private static void fault(String text, int kind, int place) {
        OppositePairs x = new OppositePairs();
        Check.due("clauses of " + text, Check.tell(x, text) == NONE, kind != 0);
        Check.due("fault of " + text, x.fault(0), kind);
        Check.due("place of " + text, x.fault(1), place);
        Check.due("fault(2)", x.fault(2), NONE);
        Check.due("fault(-1)", x.fault(-1), NONE);
        Check.due("the tape is empty then", x.look(3), 0);
    }

    private static void faultsAtTheirPlaces() {
        fault("", 0, NONE);
        fault(" \n ", 0, NONE);
        fault("p", 1, 1);
        fault("p  \n", 1, 4);
        fault(".", 1, 0);
        fault("p..", 1, 2);
        fault("p|.", 1, 2);
        fault("p||q.", 1, 2);
        fault("p(X", 1, 3);
        fault("p().", 1, 2);
        fault("p(a,,b).", 1, 4);
        fault("p(a b).", 1, 4);
        fault("p q.", 1, 2);
        fault("p(-a).", 1, 2);
        fault("p(X(a)).", 1, 3);
        fault("X.", 1, 0);
        fault("-X.", 1, 1);
        fault("- - p.", 1, 2);
        fault("-", 1, 1);
        fault("p(a)(b).", 1, 4);
        fault("p(a)).", 1, 4);
        fault("p\t.", 1, 1);
        fault("p\r.", 1, 1);
        fault("p1.", 1, 1);
        fault("p\u00e9.", 1, 1);
        fault("p(XY).", 1, 2);
        fault("p(Xa).", 1, 2);
        fault("p(aX).", 1, 2);
        fault("pP.", 1, 0);
        fault("abcdefgh.", 0, NONE);
        fault("abcdefghi.", 1, 0);
        fault("p(abcdefghi).", 1, 2);
        fault("- p ( X , a ( b ) )\n| q .", 0, NONE);
        fault("a|b|c|d|e|f.", 0, NONE);
        fault("a|b|c|d|e|f|g.", 2, 12);
        fault("a|b|c|d|e|f|-g.", 2, 12);
        fault("a|b|c|d|e|f|-.", 2, 12);
        fault("a|b|c|d|e|f|.", 1, 12);
        fault("a|b|c|d|e|f|X.", 1, 12);
        fault("a|b|c|d|e|f|abcdefghi.", 1, 12);
        fault("a|b|c|d|e|f|  ", 1, 14);
        fault("p(a,b,c).", 0, NONE);
        fault("p(a,b,c,d).", 2, 8);
        fault("p(a,b,c, D).", 2, 9);
        fault("p(a,b,c,).", 1, 8);
        fault("p(a,b,c,DE).", 1, 8);
        fault("p(f(a,b,c,d)).", 2, 10);
        fault("p(A,B,C)|p(D,E,F)|p(G,H).", 0, NONE);
        fault("p(A,B,C)|p(D,E,F)|p(G,H,A).", 0, NONE);
        fault("p(A,B,C)|p(D,E,F)|p(G,H,I).", 2, 24);
        fault("p(A,B,C)|p(D,E,F)|p(G,H,IJ).", 1, 24);
        fault("p(A,B,C)|p(D,E,F)|p(G,H).p(I).", 0, NONE);
        fault("p(f(f(f(f(f(a)))))).", 0, NONE);
        fault("p(f(f(f(f(f(f(a))))))).", 2, 13);
        fault("p(f(f(f(f(f(X(a))))))).", 1, 13);
        fault("p(f(f(f(f(a)))),f(f(f(f(f(a)))))).", 0, NONE);
        fault("a.a.a.a.a.a.a.a.a.a.a.a.a.a.a.a.", 0, NONE);
        fault("a.a.a.a.a.a.a.a.a.a.a.a.a.a.a.a. a.", 2, 33);
        fault("a.a.a.a.a.a.a.a.a.a.a.a.a.a.a.a.-", 2, 32);
        fault("a.a.a.a.a.a.a.a.a.a.a.a.a.a.a.a.X", 1, 32);
        fault("a.a.a.a.a.a.a.a.a.a.a.a.a.a.a.a.\n", 0, NONE);
        fault("a.".repeat(16) + "abcdefghi.", 1, 32);
    }

    /** What stood on THE TAPE behind its end is not there. */
    private static void behindTheEnd() {
        OppositePairs x = new OppositePairs();
        Check.tape(x, "pqr  .    (a). -b.|c. ");
        Check.due("end(3)", x.end(3), true);
        Check.due("clauses", x.clauses(), NONE);
        Check.due("fault(1)", x.fault(1), 3);
        Check.tape(x, "pqr.");
        Check.due("end(2)", x.end(2), true);
        Check.due("clauses", x.clauses(), NONE);
        Check.due("fault(1)", x.fault(1), 2);
        Check.tape(x, "p.");
        Check.due("clauses", x.clauses(), 1);
        Check.due("show", Check.show(x, 0, 0), "p");
        Check.tape(x, "abcd.efghi.");
        Check.due("end(7)", x.end(7), true);
        Check.due("feed", x.feed(0x2E202020, 0x20202020, 0x20202020, 0x20202020, 0x20202020), 27);
        Check.due("clauses", x.clauses(), 2);
        Check.due("show", Check.show(x, 1, 0), "ef");
        // All 600 bytes: blanks up to the end, and a NAME up to it.
        for (int n = 0; n < 30; n++) {
            x.feed(0x20202020, 0x0A0A0A0A, 0x20202020, 0x20202020, n == 29 ? 0x2020202E : 0x20202020);
        }
        Check.due("clauses", x.clauses(), NONE);
        Check.due("fault(1)", x.fault(1), 599);
        for (int n = 0; n < 30; n++) {
            x.feed(0x20202020, 0x0A0A0A0A, 0x20202020, 0x20202020, n == 29 ? 0x20207070 : 0x20202020);
        }
        Check.due("clauses", x.clauses(), NONE);
        Check.due("fault(1)", x.fault(1), 600);
    }

    private static void faultLeavesAllAsItIs() {
        OppositePairs x = Check.told("p|q(X). -p. -q(a).");
        Check.due("solve", x.solve(0, 3, 0), 1);
        Check.due("show", x.show(0, 1), 4);
        Check.due("clauses with a fault", Check.tell(x, "r|s|t. u|"), NONE);
        Check.due("fault(1)", x.fault(1), 9);
        Check.due("look(0)", x.look(0), 3);
        Check.due("look(1)", x.look(1), 4);
        Check.due("look(4)", x.look(4), 1);
        Check.due("answer(-1)", x.answer(-1, 0), 1);
        Check.due("shown", Check.shown(x, 0, 1), "q(a)");
        Check.due("tried(0)", x.tried(0), 2);
        Check.due("clauses without one", Check.tell(x, "r|s|t."), 1);
        Check.due("fault(0)", x.fault(0), 0);
        Check.due("fault(1)", x.fault(1), NONE);
        Check.due("look(4)", x.look(4), 0);
        Check.due("answer(-1)", x.answer(-1, 0), 0);
        Check.due("tried(0) stays", x.tried(0), 2);
        Check.due("what was SHOWN stays", Check.out(x), "q(a)");
    }

    private static void clausesComeAndGo() {
        OppositePairs x = Check.told("a. b|c(X,Y). -d(e)|f|g. h.");
        Check.due("drop(4)", x.drop(4), false);
        Check.due("drop(-1)", x.drop(-1), false);
        Check.due("drop(1)", x.drop(1), true);
        Check.due("look(0)", x.look(0), 3);
        Check.due("show", Check.show(x, 0, 0), "a");
        Check.due("show", Check.show(x, 1, 0), "-d(e)");
        Check.due("show", Check.show(x, 1, 2), "g");
        Check.due("show", Check.show(x, 2, 0), "h");
        Check.due("clause(1, 0)", x.clause(1, 0), 3);
        Check.due("clause(1, 1)", x.clause(1, 1), 0);
        Check.due("clause(1, 3)", x.clause(1, 3), 6);
        Check.due("drop(2)", x.drop(2), true);
        Check.due("drop(0)", x.drop(0), true);
        Check.due("drop(0)", x.drop(0), true);
        Check.due("drop(0)", x.drop(0), false);
        Check.due("look(0)", x.look(0), 0);
        OppositePairs y = Check.told("p(X). p(X,Y). p(X,Y,Z). p(a)|-p.");
        Check.due("drop(0)", y.drop(0), true);
        for (int c = 0; c < 3; c++) {
            Check.due("LITERALS", y.clause(c, 0), c == 2 ? 2 : 1);
            Check.due("VARIABLES", y.clause(c, 1), c == 2 ? 0 : c + 2);
            Check.due("parts", y.clause(c, 2), c + 3 - c / 2 * 2);
        }
        OppositePairs full = Check.told("a.".repeat(15) + "z.");
        Check.due("drop(15)", full.drop(15), true);
        Check.due("show", Check.show(full, 14, 0), "a");
        Check.due("drop of a new one", new OppositePairs().drop(0), false);
    }

    private static void clauseTells() {
        OppositePairs x = Check.told("p(X,f(Y,X))|-q|r(Z)|-s(a,b,c)|t|u(f(f(f(f(f(V)))))). -a.");
        Check.due("LITERALS", x.clause(0, 0), 6);
        Check.due("VARIABLES", x.clause(0, 1), 4);
        Check.due("parts", x.clause(0, 2), 5 + 1 + 2 + 4 + 1 + 7);
        Check.due("without -", x.clause(0, 3), 1 + 4 + 16 + 32);
        int[] terms = {2, 0, 1, 3, 0, 1, NONE};
        for (int k = 0; k < terms.length; k++) {
            Check.due("TERMS", x.clause(0, 10 + k), terms[k]);
        }
        Check.due("without -", x.clause(1, 3), 0);
        Check.due("clause(0, 4)", x.clause(0, 4), NONE);
        Check.due("clause(0, 9)", x.clause(0, 9), NONE);
        Check.due("clause(0, -1)", x.clause(0, -1), NONE);
        Check.due("clause(0, MAX)", x.clause(0, Integer.MAX_VALUE), NONE);
        Check.due("clause(0, MIN)", x.clause(0, Integer.MIN_VALUE), NONE);
        Check.due("clause(2, 0)", x.clause(2, 0), NONE);
        Check.due("clause(-1, 0)", x.clause(-1, 0), NONE);
        // A VARIABLE counts as often as it stands there, and all 300 parts that a tape can have.
        OppositePairs y = Check.told("p(g(X,X,X),g(X,X,X),g(X,X,X)).");
        Check.due("parts", y.clause(0, 2), 13);
        Check.due("VARIABLES", y.clause(0, 1), 1);
        String most = "p(a,b,c)|".repeat(5) + "p(a,b,c).";
        OppositePairs z = Check.told(most.repeat(11));
        Check.due("parts", z.clause(10, 2), 24);
        Check.due("show", Check.show(z, 10, 5), "p(a,b,c)");
    }

    private static void literalsAreShown() {
        OppositePairs x = Check.told(" - pq ( X , f ( Y , abcdefgh ) ,\n Z ) | z . a.");
        Check.due("show", Check.show(x, 0, 0), "-pq(X,f(Y,abcdefgh),Z)");
        Check.due("show(0, 2)", x.show(0, 2), NONE);
        Check.due("show(0, -1)", x.show(0, -1), NONE);
        Check.due("show(2, 0)", x.show(2, 0), NONE);
        Check.due("show(-1, 0)", x.show(-1, 0), NONE);
        Check.due("shown(0, 0)", x.shown(0, 0), NONE);
        Check.due("what was SHOWN stays", Check.out(x), "-pq(X,f(Y,abcdefgh),Z)");
        Check.due("out(-1)", x.out(-1), NONE);
        Check.due("out(22)", x.out(22), NONE);
        Check.due("out(MAX)", x.out(Integer.MAX_VALUE), NONE);
        Check.due("show", Check.show(x, 0, 1), "z");
        Check.due("out(1)", x.out(1), NONE);
        String leaf = "f(abcdefgh,abcdefgh,abcdefgh)";
        String node = "f(" + leaf + "," + leaf + "," + leaf + ")";
        String wide = "-p(" + node + "," + node + "," + node + ")";
        wide = wide.replace("f(f(abcdefgh,abcdefgh,abcdefgh),", "f(f(abcdefgh,b,abcdefgh),");
        OppositePairs y = Check.told(wide + ".-" + "abcdefgh.");
        Check.due("a long one", Check.show(y, 0, 0), wide);
        String longest = "p(" + "f(aaaaaaaa,bbbbbbbb,f(cccccccc,dddddddd,eeeeeeee))".repeat(1) + ")";
        Check.due("another", Check.show(Check.told(longest + "."), 0, 0), longest);
        StringBuilder most = new StringBuilder("p(");
        for (int i = 0; i < 3; i++) {
            most.append(i == 0 ? "" : ",").append("f(");
            for (int j = 0; j < 3; j++) {
                most.append(j == 0 ? "" : ",").append("f(f(abcdefgh,abcdefgh,abcdefgh),abcdefgh,abcdefgh)");
            }
            most.append(")");
        }
        most.append(")");
        Check.due("the most", Check.show(Check.told(most + "."), 0, 0), most.toString());
    }

    private static void looks() {
        OppositePairs x = Check.told("p|-p|p(a). p(X)|q(p). -q(Y)|qq.");
        Check.due("look(0)", x.look(0), 3);
        Check.due("look(1)", x.look(1), 7);
        Check.due("look(2)", x.look(2), 4);
        Check.due("feed", x.feed(0, 0, 0, 0, 0), 20);
        Check.due("look(3)", x.look(3), 20);
        Check.due("drop", x.drop(2), true);
        Check.due("look(1)", x.look(1), 5);
        Check.due("look(2)", x.look(2), 3);
        Check.due("look(3)", x.look(3), 20);
    }

    /** FAULT times 1000 and its place, 0 without; read by states and a stack of how many TERMS stand in each "(". */
    private static int model(String text) {
        Deque<Integer> open = new ArrayDeque<>();
        Set<String> variables = new HashSet<>();
        int clauses = 0;
        int literals = 0;
        // l: a LITERAL, n: its NAME, t: a TERM, (: behind a NAME, ): behind a TERM that is at its end
        char wanted = 'l';
        boolean fresh = true;
        int at = 0;
        while (true) {
            while (at < text.length() && " \n".indexOf(text.charAt(at)) >= 0) {
                at++;
            }
            if (at == text.length()) {
                return wanted == 'l' && fresh ? 0 : 1000 + at;
            }
            int behind = at;
            while (behind < text.length() && ("" + text.charAt(behind)).matches("[A-Za-z]")) {
                behind++;
            }
            String word = text.substring(at, Math.max(behind, at + 1));
            boolean name = word.matches("[a-z]{1,8}");
            boolean variable = word.matches("[A-Z]");
            int limit = 0;
            if (wanted == 'l' && (name || word.equals("-"))) {
                limit = fresh && clauses == 16 || literals == 6 ? 2 : 0;
                if (fresh) {
                    variables.clear();
                }
                fresh = false;
                literals++;
                wanted = name ? '(' : 'n';
            } else if (wanted == 'n' && name) {
                wanted = '(';
            } else if (wanted == 't' && (name || variable)) {
                int terms = open.pop() + 1;
                open.push(terms);
                if (variable) {
                    variables.add(word);
                }
                limit = terms == 4 || variables.size() == 9 ? 2 : 0;
                wanted = name ? '(' : ')';
            } else if (wanted == '(' && word.equals("(")) {
                open.push(0);
                limit = open.size() == 7 ? 2 : 0;
                wanted = 't';
            } else if ((wanted == '(' || wanted == ')') && !open.isEmpty() && word.equals(",")) {
                wanted = 't';
            } else if ((wanted == '(' || wanted == ')') && !open.isEmpty() && word.equals(")")) {
                open.pop();
                wanted = ')';
            } else if ((wanted == '(' || wanted == ')') && open.isEmpty() && word.equals("|")) {
                wanted = 'l';
            } else if ((wanted == '(' || wanted == ')') && open.isEmpty() && word.equals(".")) {
                clauses++;
                literals = 0;
                fresh = true;
                wanted = 'l';
            } else {
                return 1000 + at;
            }
            if (limit != 0) {
                return 2000 + at;
            }
            at += word.length();
        }
    }

    private static String grown(Random random) {
        String signs = "ab(),|.-XY \nfq";
        StringBuilder text = new StringBuilder();
        String[] pieces = {"p(X,Y)|-q(a).", "-p(f(g(A,B,C),D))|r(E,F,G).", "a|b|c|", "f(", ",c", "(H,I,J)", ")", "a.a.a.",
            "p(f(f(f(f(", "abcdefgh", "a))", "|-q", ".", "g(X,Y,Z)"};
        String[] whole = {"p(X,Y)|-q(a).", "a|b|c|d|e|f.", "p(f(f(f(f(f(X)))))).", "p(A,B,C)|p(D,E,F)|p(G,H).", "a.a.a.",
            " -p . \n"};
        boolean sound = random.nextBoolean();
        int count = 1 + random.nextInt(12);
        for (int i = 0; i < count; i++) {
            text.append(sound ? whole[random.nextInt(whole.length)] : pieces[random.nextInt(pieces.length)]);
        }
        int changes = random.nextInt(3);
        for (int i = 0; i < changes; i++) {
            int at = random.nextInt(text.length());
            char sign = signs.charAt(random.nextInt(signs.length()));
            switch (random.nextInt(3)) {
                case 0:
                    text.setCharAt(at, sign);
                    break;
                case 1:
                    text.insert(at, sign);
                    break;
                default:
                    if (text.length() > 1) {
                        text.deleteCharAt(at);
                    }
            }
        }
        return text.toString();
    }

    private static void mutations() {
        int[] kinds = new int[3];
        Random random = new Random(5);
        OppositePairs x = new OppositePairs();
        for (int n = 0; n < 40000 && !Check.isWrong(); n++) {
            if (n % 20 == 0) {
                x = new OppositePairs();
            }
            String text = grown(random);
            int count = Check.tell(x, text);
            int want = model(text);
            kinds[want / 1000]++;
            Check.due("fault of " + text, x.fault(0), want / 1000);
            Check.due("place of " + text, x.fault(1), want == 0 ? NONE : want % 1000);
            Check.due("clauses of " + text, count, want == 0 ? text.replaceAll("[^.]", "").length() : NONE);
        }
        System.out.println(kinds[0] + " without FAULT, " + kinds[1] + " of the first kind, " + kinds[2] + " of the second");
        Check.due("enough of each", kinds[0] > 500 && kinds[1] > 500 && kinds[2] > 500, true);
    }
}
