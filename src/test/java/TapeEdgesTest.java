/** Promises 1 to 9 and the first part of the Terms, each sentence with a boundary: inside it, outside it, what stays. */
public final class TapeEdgesTest {
    private static final int NONE = OppositePairs.NONE;
    private static final int MIN = Integer.MIN_VALUE;
    private static final int MAX = Integer.MAX_VALUE;
    private static final int BLANKS = 0x20202020;

    public static void main(String[] args) {
        aNewObjectHasNone();
        bytesComeHighestFirst();
        bytesComeBehind();
        sixHundredBytes();
        refusedFeedBringsNone();
        firstBytesAlone();
        refusedEndLeavesTheTape();
        theTapeIsTheClauses();
        clausesAreNoneWithFault();
        toldBeforeAreGoneOnlyWithoutFault();
        faultOfTheLatest();
        aClauseGoes();
        refusedDropLeavesAll();
        clauseTells();
        literalIsShown();
        shownStays();
        bytesOfWhatWasShown();
        sixteenClauses();
        sixLiterals();
        threeTerms();
        eightVariables();
        sixOpen();
        eightLetters();
        oneGreatLetter();
        lettersOfBothSorts();
        lettersAtTheirEnds();
        blanksBetweenTokens();
        theEndIsTheLength();
        leastByteThenLeastNumber();
        whatCannotStandThere();
        Check.finish("TapeEdgesTest");
    }

    /** THE PROOF, ANSWERS, what was SHOWN, a FAULT, bytes on THE TAPE: all that a refused call could spoil. */
    static OppositePairs rich() {
        OppositePairs x = Check.told("p(X)|q(X). -p(a)|-p(Y). -q(a)|r. -r. -q(b).");
        Check.due("a FAULT", Check.tell(x, "u|v(W)|."), NONE);
        Check.due("an ANSWER", x.solve(1, 0, 0), 0);
        Check.due("a PROOF", x.solve(0, 2, 0), 1);
        Check.due("SHOWN", x.shown(0, 1), 4);
        Check.tape(x, " u | -v(X,Y) .\nw.");
        return x;
    }

    // ---- Promise 1: "No CLAUSES."

    private static void aNewObjectHasNone() {
        OppositePairs x = new OppositePairs();
        Check.due("all of a new one", Eye.seen(x), "SHOWN \nfault 0 -1\ntried 0 0 0 0\nlook 0 0 0 0 0 0 0 0 0\nanswers 0"
                + "\npure 0\nproof -1 -1 0\ninstances -1");
        Check.due("drop(0)", x.drop(0), false);
        Check.due("show(0, 0)", x.show(0, 0), NONE);
        Check.due("shown(0, 0)", x.shown(0, 0), NONE);
        Check.due("meets(0, 0, 0, 0)", x.meets(0, 0, 0, 0), NONE);
        Check.due("partners(0, 0)", x.partners(0, 0), NONE);
        Check.due("solve(0, 0, 0)", x.solve(0, 0, 0), NONE);
        Check.due("deepen(0, 0, 0)", x.deepen(0, 0, 0), -3);
        Check.due("any(0, 0)", x.any(0, 0), NONE);
        Check.due("open(0, 1)", x.open(0, 1), NONE);
        Check.due("end(0)", x.end(0), true);
        Check.due("end(1)", x.end(1), false);
        Check.due("clauses()", x.clauses(), 0);
    }

    // ---- Promise 2: feed

    /** "Twenty bytes come, four of each number, the highest first" */
    private static void bytesComeHighestFirst() {
        OppositePairs x = new OppositePairs();
        Check.due("feed", x.feed(0x61626364, 0x65666768, 0x286A6B6C, 0x6D6E6F70, 0x712C7229), 20);
        Check.due("feed", x.feed(0x2E202020, BLANKS, BLANKS, BLANKS, BLANKS), 40);
        Check.due("clauses", x.clauses(), 1);
        Check.due("show", Check.show(x, 0, 0), "abcdefgh(jklmnopq,r)");
        // A byte of 128 and more, as a number below 0.
        for (int at = 0; at < 20; at++) {
            int[] five = {BLANKS, BLANKS, BLANKS, BLANKS, BLANKS};
            five[at / 4] |= 0x80 << 24 - at % 4 * 8;
            OppositePairs y = new OppositePairs();
            y.feed(five[0], five[1], five[2], five[3], five[4]);
            Check.due("clauses", y.clauses(), NONE);
            Check.due("its place", y.fault(1), at);
        }
        OppositePairs z = new OppositePairs();
        Check.due("feed", z.feed(-1, MIN, MAX, 0, 1), 20);
    }

    /** "come behind THE TAPE: how many it has" */
    private static void bytesComeBehind() {
        OppositePairs x = new OppositePairs();
        Check.due("feed", x.feed(0x70202020, BLANKS, BLANKS, BLANKS, 0x2020207C), 20);
        Check.due("feed", x.feed(0x71202020, BLANKS, BLANKS, BLANKS, 0x2020202E), 40);
        Check.due("look(3)", x.look(3), 40);
        Check.due("clauses", x.clauses(), 1);
        Check.due("LITERALS", Eye.literalsOf(x), "\nliterals; p q");
        Check.due("behind an empty one", x.feed(0, 0, 0, 0, 0), 20);
    }

    private static OppositePairs filled(int length) {
        OppositePairs x = new OppositePairs();
        Check.due("feed", x.feed(0x70717228, 0x582C6161, 0x297C7A2E, BLANKS, BLANKS), 20);
        for (int n = 2; n <= 30; n++) {
            Check.due("feed", x.feed(BLANKS, BLANKS, BLANKS, BLANKS, BLANKS), n * 20);
        }
        Check.due("end", x.end(length), true);
        return x;
    }

    /** "NONE if there would be more than 600" */
    private static void sixHundredBytes() {
        for (int length : new int[] {0, 1, 579, 580}) {
            Check.due("feed behind " + length, filled(length).feed(0, 0, 0, 0, 0), length + 20);
        }
        for (int length : new int[] {581, 590, 599, 600}) {
            Check.due("feed behind " + length, filled(length).feed(0, 0, 0, 0, 0), NONE);
        }
    }

    /** "and none come" */
    private static void refusedFeedBringsNone() {
        for (int length : new int[] {581, 599, 600}) {
            Eye.refused("feed behind " + length, () -> filled(length), x -> x.feed(1, 2, 3, 4, 5), NONE);
        }
        OppositePairs x = filled(581);
        Check.due("feed", x.feed(0x782E782E, 0x782E782E, 0x782E782E, 0x782E782E, 0x782E782E), NONE);
        Check.due("look(3)", x.look(3), 581);
        Check.due("clauses", x.clauses(), 1);
        Check.due("LITERALS", Eye.literalsOf(x), "\nliterals; pqr(X,aa) z");
        Check.due("no FAULT", x.fault(0), 0);
    }

    // ---- Promise 3: end

    /** "THE TAPE has its first n bytes alone: true" */
    private static void firstBytesAlone() {
        for (int n = 0; n <= 11; n++) {
            OppositePairs x = new OppositePairs();
            Check.tape(x, "a.b.c.d.e.f");
            Check.due("end(" + n + ")", x.end(n), true);
            Check.due("look(3)", x.look(3), n);
            Check.due("clauses of " + n, x.clauses(), n % 2 == 0 ? n / 2 : NONE);
        }
        OppositePairs full = filled(600);
        Check.due("end(600)", full.end(600), true);
        Check.due("look(3)", full.look(3), 600);
        // What comes then stands behind the first n, and what was behind them is gone.
        OppositePairs y = new OppositePairs();
        Check.tape(y, "abc|d.e.f.");
        Check.due("end(2)", y.end(2), true);
        Check.due("end(3)", y.end(3), false);
        Check.due("feed", y.feed(0x782E2020, BLANKS, BLANKS, BLANKS, BLANKS), 22);
        Check.due("clauses", y.clauses(), 1);
        Check.due("LITERALS", Eye.literalsOf(y), "\nliterals; abx");
        OppositePairs z = new OppositePairs();
        Check.due("end(0) of an empty one", z.end(0), true);
    }

    /** "false if it has not so many, or n is below 0" */
    private static void refusedEndLeavesTheTape() {
        int[] wrong = {-1, -20, MIN, MIN + 1, 18, 19, 20, 600, 601, MAX};
        for (int n : wrong) {
            Eye.refused("end(" + n + ")", TapeEdgesTest::rich, x -> x.end(n) ? 1 : 0, 0);
        }
        Check.due("end(17)", rich().end(17), true);
        Eye.refused("end(601)", () -> filled(600), x -> x.end(601) ? 1 : 0, 0);
        Eye.refused("end(1)", OppositePairs::new, x -> x.end(1) ? 1 : 0, 0);
        Eye.refused("end(-1)", OppositePairs::new, x -> x.end(-1) ? 1 : 0, 0);
    }

    // ---- Promise 4: clauses

    /** "THE TAPE (empty then) is the CLAUSES: how many." */
    private static void theTapeIsTheClauses() {
        for (int n = 0; n <= 16; n++) {
            OppositePairs x = new OppositePairs();
            Check.due("clauses", Check.tell(x, "p.".repeat(n)), n);
            Check.due("look(0)", x.look(0), n);
            Check.due("THE TAPE", x.look(3), 0);
            Check.due("empty: there are none then", x.clauses(), 0);
            Check.due("look(0)", x.look(0), 0);
        }
        Check.due("without a sign", Check.tell(new OppositePairs(), " \n \n"), 0);
        // All 600 bytes are read, the last one, too.
        OppositePairs full = new OppositePairs();
        String text = "a.b.c.d.e.f.g.h.i.j.k.l.m.n.o." + " ".repeat(568) + "z.";
        Check.due("its length", text.length(), 600);
        Check.due("clauses", Check.tell(full, text), 16);
        Check.due("show", Check.show(full, 15, 0), "z");
        // What was told before is gone, with THE PROOF and ANSWERS; not what was SHOWN, tried() and look(8).
        OppositePairs y = rich();
        Check.due("an ANSWER once more", y.solve(0, 2, 0), 1);
        Check.due("clauses", y.clauses(), 2);
        Check.due("all", Eye.seen(y), "SHOWN q(a)\nfault 0 -1\ntried 4 2 0 3\nlook 2 3 3 0 0 0 0 0 1\nanswers 0\npure 3"
                + "\nclause 2 2 4 1 0m0 2m0\nclause 1 0 1 1 0m0\nproof -1 -1 0\ninstances -1");
    }

    /** "NONE if there is a FAULT (all stays)" */
    private static void clausesAreNoneWithFault() {
        OppositePairs x = rich();
        Check.due("end", x.end(16), true);
        String before = Eye.seen(x);
        Check.due("clauses", x.clauses(), NONE);
        String after = Eye.seen(x);
        Check.due("a PROOF, ANSWERS, SHOWN and CLAUSES", after.replace("fault 1 16", "fault 1 7").replace(
                "look 5 8 3 0 ", "look 5 8 3 16 "), before);
        // THE TAPE is empty then, too: what is told next stands alone.
        Check.due("look(3)", x.look(3), 0);
        Check.due("clauses", Check.tell(x, "p."), 1);
        Check.due("LITERALS", Eye.literalsOf(x), "\nliterals; p");
        Check.due("with no CLAUSES", Check.tell(new OppositePairs(), "p"), NONE);
    }

    /** "CLAUSES told before are gone only if there is none." */
    private static void toldBeforeAreGoneOnlyWithoutFault() {
        // The FAULT is behind sixteen sound CLAUSES, or in the first one.
        for (String text : new String[] {"x|y(Z).".repeat(16) + "x", "x|y(Z).".repeat(15) + "x|", ".", "X.x.x."}) {
            OppositePairs x = Check.told("p(X)|-q(f(X,Y)). r.");
            Check.due("clauses of " + text, Check.tell(x, text), NONE);
            Check.due("LITERALS", Eye.literalsOf(x), "\nliterals; p(X) -q(f(X,Y)); r");
            Check.due("VARIABLES", x.clause(0, 1), 2);
            Check.due("clauses of none", x.clauses(), 0);
            Check.due("LITERALS", Eye.literalsOf(x), "\nliterals");
        }
    }

    // ---- Promise 5: fault

    /** "Of the latest clauses() what 0 FAULT (0 without), 1 its place (NONE without). NONE for another what." */
    private static void faultOfTheLatest() {
        OppositePairs x = new OppositePairs();
        fault(x, 0, NONE);
        Check.tell(x, "p|q");
        fault(x, 1, 3);
        Check.tell(x, "p(a,b,c,d).");
        fault(x, 2, 8);
        // Calls other than clauses() leave it.
        Check.tape(x, "p.");
        x.drop(0);
        x.solve(0, 0, 0);
        fault(x, 2, 8);
        Check.due("clauses", x.clauses(), 1);
        fault(x, 0, NONE);
        Check.tell(x, ".");
        fault(x, 1, 0);
        Check.due("drop", x.drop(0), true);
        fault(x, 1, 0);
        Check.due("clauses", x.clauses(), 0);
        fault(x, 0, NONE);
        for (int what : new int[] {-1, 2, 3, MIN, MAX}) {
            Eye.refused("fault(" + what + ")", TapeEdgesTest::rich, y -> y.fault(what), NONE);
        }
    }

    private static void fault(OppositePairs x, int kind, int place) {
        Check.due("fault(0)", x.fault(0), kind);
        Check.due("fault(1)", x.fault(1), place);
        Check.due("fault(2)", x.fault(2), NONE);
        Check.due("fault(-1)", x.fault(-1), NONE);
    }

    private static void fault(String text, int kind, int place) {
        OppositePairs x = new OppositePairs();
        int count = Check.tell(x, text);
        Check.due("clauses of " + text, count == NONE, kind != 0);
        Check.due("fault of " + text, x.fault(0), kind);
        Check.due("place of " + text, x.fault(1), place);
        Check.due("none came of " + text, x.look(0), kind == 0 ? count : 0);
    }

    private static void sound(String text) {
        fault(text, 0, NONE);
    }

    // ---- Promise 6: drop

    /** "A CLAUSE goes (those behind it are one less): true" */
    private static void aClauseGoes() {
        String[] want = {"b|c(X,Y); -d(e); h(V)", "a; -d(e); h(V)", "a; b|c(X,Y); h(V)", "a; b|c(X,Y); -d(e)"};
        for (int c = 0; c < 4; c++) {
            OppositePairs x = Check.told("a. b|c(X,Y). -d(e). h(V).");
            Check.due("drop(" + c + ")", x.drop(c), true);
            Check.due("look(0)", x.look(0), 3);
            Check.due("LITERALS", Eye.literalsOf(x), "\nliterals; " + want[c].replace('|', ' '));
            Check.due("none behind the last one", x.clause(3, 0), NONE);
            Check.due("none behind the last one", x.drop(3), false);
        }
        // All sixteen, from the last one and from the first one on.
        OppositePairs x = Check.told("a.b.c.d.e.f.g.h.i.j.k.l.m.n.o.p.");
        for (int c = 15; c >= 8; c--) {
            Check.due("drop(16)", x.drop(c + 1), false);
            Check.due("drop", x.drop(c), true);
        }
        for (int c = 0; c < 8; c++) {
            Check.due("the first", Check.show(x, 0, 0), String.valueOf((char) ('a' + c)));
            Check.due("drop(0)", x.drop(0), true);
        }
        Check.due("drop(0) of none", x.drop(0), false);
        Check.due("look(0)", x.look(0), 0);
        // THE PROOF and ANSWERS are gone, also if the CLAUSE had no part in them; the rest stays.
        OppositePairs y = rich();
        Check.due("drop(4)", y.drop(4), true);
        Check.due("all", Eye.seen(y), "SHOWN q(a)\nfault 1 7\ntried 4 2 0 3\nlook 4 7 3 17 0 0 0 0 0\nanswers 0\npure 0"
                + "\nclause 2 1 4 3 1m2 1m1\nclause 2 1 4 0 1m1 1m1\nclause 2 0 3 2 1m1 0m1\nclause 1 0 1 0 0m1"
                + "\nproof -1 -1 0\ninstances -1");
    }

    /** "false if there is none such" */
    private static void refusedDropLeavesAll() {
        for (int c : new int[] {-1, 5, 6, 15, 16, 32, MIN, MAX}) {
            Eye.refused("drop(" + c + ")", TapeEdgesTest::rich, x -> x.drop(c) ? 1 : 0, 0);
        }
        Eye.refused("drop(0)", OppositePairs::new, x -> x.drop(0) ? 1 : 0, 0);
        Check.due("drop(4)", rich().drop(4), true);
    }

    // ---- Promise 7: clause

    /** "NONE if there is none such, or another what." */
    private static void clauseTells() {
        String six = "a|-b(X)|c(X,Y)|-d(X,f(Y),Z)|e|-g(h(h(h(h(h(V)))))).";
        OppositePairs x = Check.told(six + "p." + "-q(A,B,C)|-q(D,E,F)|-q(G,H,A).");
        int[][] want = {{6, 4, 1 + 2 + 3 + 5 + 1 + 7, 21}, {1, 0, 1, 1}, {3, 8, 12, 0}};
        int[][] terms = {{0, 1, 2, 3, 0, 1}, {0}, {3, 3, 3}};
        for (int c = 0; c < 3; c++) {
            for (int what = 0; what < 4; what++) {
                Check.due("clause(" + c + ", " + what + ")", x.clause(c, what), want[c][what]);
            }
            for (int k = 0; k < 7; k++) {
                Check.due("TERMS of " + k, x.clause(c, 10 + k), k < terms[c].length ? terms[c][k] : NONE);
            }
            for (int what = 4; what < 10; what++) {
                Check.due("clause(" + c + ", " + what + ")", x.clause(c, what), NONE);
            }
        }
        for (int c : new int[] {-1, 3, 15, 16, MIN, MAX}) {
            for (int what : new int[] {0, 1, 2, 3, 10, 15}) {
                Check.due("clause(" + c + ", " + what + ")", x.clause(c, what), NONE);
            }
        }
        for (int what : new int[] {-1, 4, 9, 12, 16, 20, MIN, MIN + 9, MIN + 10, MAX}) {
            Eye.refused("clause(0, " + what + ")", TapeEdgesTest::rich, y -> y.clause(0, what), NONE);
        }
        Eye.refused("clause(5, 0)", TapeEdgesTest::rich, y -> y.clause(5, 0), NONE);
        Eye.refused("clause(-1, 0)", TapeEdgesTest::rich, y -> y.clause(-1, 0), NONE);
    }

    // ---- Promise 8: show

    /** "LITERAL k of a CLAUSE is SHOWN, as it was told without blanks: how many bytes." */
    private static void literalIsShown() {
        OppositePairs x = Check.told("\n- a ( X ,\nf ( Y ) )| b |c|d|e|  f.z(abcdefgh).");
        String[] want = {"-a(X,f(Y))", "b", "c", "d", "e", "f"};
        for (int k = 0; k < 6; k++) {
            Check.due("show", Check.show(x, 0, k), want[k]);
        }
        Check.due("show", Check.show(x, 1, 0), "z(abcdefgh)");
        // The longest one that THE TAPE can have: 599 bytes and ".".
        String leaf = "f(abcdefgh,abcdefgh,abcdefgh)";
        String node = ("f(" + leaf + "," + leaf + "," + leaf + ")").replace("abcdefgh,", "ijklmnop,");
        String tree = "f(" + node + "," + node + "," + node + ")";
        String most = "-p(" + tree + "," + tree + ",fff(abcdefgh,abcdefgh,abcdefgh))";
        Check.due("its length", most.length(), 599);
        OppositePairs y = Check.told(most + ".");
        Check.due("show", Check.show(y, 0, 0), most);
        Check.due("out(598)", y.out(598), ')');
        Check.due("out(599)", y.out(599), NONE);
    }

    /** "NONE (what was SHOWN stays) if there is none such." */
    private static void shownStays() {
        int[][] wrong = {{0, 2}, {0, -1}, {0, 6}, {5, 0}, {-1, 0}, {15, 5}, {16, 0}, {MIN, 0}, {0, MIN}, {MAX, MAX}};
        for (int[] w : wrong) {
            Eye.refused("show(" + w[0] + ", " + w[1] + ")", TapeEdgesTest::rich, x -> x.show(w[0], w[1]), NONE);
        }
        OppositePairs x = rich();
        Check.due("show(4, 0)", x.show(4, 0), 5);
        Check.due("show(4, 1)", x.show(4, 1), NONE);
        Check.due("what was SHOWN", Check.out(x), "-q(b)");
    }

    // ---- Promise 9: out

    /** "The i-th byte of what was SHOWN latest. NONE if there is none such." */
    private static void bytesOfWhatWasShown() {
        OppositePairs x = Check.told("-pq(X)|r.");
        for (int i : new int[] {-1, 0, 1, MIN, MAX}) {
            Check.due("out(" + i + ") ahead of any", x.out(i), NONE);
        }
        Check.due("show", x.show(0, 0), 6);
        int[] want = {NONE, '-', 'p', 'q', '(', 'X', ')', NONE, NONE};
        for (int i = -1; i < 8; i++) {
            Check.due("out(" + i + ")", x.out(i), want[i + 1]);
        }
        // A shorter one: of the longer one nothing is left.
        Check.due("show", x.show(0, 1), 1);
        Check.due("out(0)", x.out(0), 'r');
        for (int i : new int[] {-1, 1, 2, 5, 6, 599, 600, MIN, MAX}) {
            Check.due("out(" + i + ")", x.out(i), NONE);
        }
        for (int i : new int[] {-1, 4, 300, 600, MIN, MAX}) {
            Eye.refused("out(" + i + ")", TapeEdgesTest::rich, y -> y.out(i), NONE);
        }
    }

    // ---- Terms: the limits and FAULTS

    /** "CLAUSES 0 .. 15"; "2 the 17th CLAUSE (at its first byte)" */
    private static void sixteenClauses() {
        String sixteen = "p.".repeat(16);
        sound(sixteen);
        sound(sixteen + " \n");
        fault(sixteen + "p.", 2, 32);
        fault(sixteen + "  \np.", 2, 35);
        fault(sixteen + "-p.", 2, 32);
        fault(sixteen + "p", 2, 32);
        fault(sixteen + "-", 2, 32);
        fault(sixteen + "pqrstuvw(", 2, 32);
        // What can't begin a CLAUSE is the first sort, at the same byte.
        for (String sign : new String[] {".", "|", "(", "X", "pqrstuvwx", "pQ", ",", "\t"}) {
            fault(sixteen + sign, 1, 32);
        }
    }

    /** "of LITERALS 0 .. 5"; "2 the 7th LITERAL of a CLAUSE (at its first byte)" */
    private static void sixLiterals() {
        sound("a|b|c|d|e|f.");
        sound("a|b|c|d|e|f.a|b|c|d|e|f.");
        fault("a|b|c|d|e|f|g.", 2, 12);
        fault("a|b|c|d|e|f| g.", 2, 13);
        fault("a|b|c|d|e|f|-g.", 2, 12);
        fault("a|b|c|d|e|f|- -.", 2, 12);
        fault("p.a|b|c|d|e|f|g.", 2, 14);
        fault("-a(X)|-a(X)|-a(X)|-a(X)|-a(X)|-a(X)|-a(X).", 2, 36);
        for (String sign : new String[] {".", "|", "X.", "abcdefghi.", "aB.", "("}) {
            fault("a|b|c|d|e|f|" + sign, 1, 12);
        }
        fault("a|b|c|d|e|f|", 1, 12);
    }

    /** "up to 3 TERMS in ( )"; "2 the 4th TERM (at its first byte)" */
    private static void threeTerms() {
        sound("p(a).");
        sound("p(a,X,c).");
        sound("p(f(a,b,c),f(a,b,c),f(a,b,c)).");
        fault("p().", 1, 2);
        fault("p( ).", 1, 3);
        fault("p(a,b,c,d).", 2, 8);
        fault("p(a,b,c, d).", 2, 9);
        fault("p(a,b,c,X).", 2, 8);
        fault("p(a,b,c,f(d)).", 2, 8);
        fault("p(f(a,b,c,d)).", 2, 10);
        fault("p(a,b,f(a,b,c),d).", 2, 15);
        for (String sign : new String[] {")", ",", "(", "-d", "XY", "abcdefghi", "aB", "."}) {
            fault("p(a,b,c," + sign + ").", 1, 8);
        }
        fault("p(a,b,c,", 1, 8);
    }

    /** "up to 8 unlike VARIABLES in a CLAUSE (of each CLAUSE its own)"; "2 the 9th VARIABLE" */
    private static void eightVariables() {
        String eight = "p(A,B,C)|p(D,E,F)|p(G,H";
        sound(eight + ").");
        sound(eight + ",A)|p(B,H,G).");
        sound(eight + ").p(I,J,K)|p(L,M,N)|p(O,P).");
        fault(eight + ",I).", 2, 24);
        fault(eight + ", I).", 2, 25);
        fault(eight + ",A)|q(Z).", 2, 29);
        fault(eight + ",f(f(Z))).", 2, 28);
        fault("q." + eight + ",I).", 2, 26);
        fault(eight + ",II).", 1, 24);
        fault(eight + ",Ia).", 1, 24);
        OppositePairs x = Check.told(eight + ",A).q(A).q(f(B,B,B)).r.");
        int[] want = {8, 1, 1, 0};
        for (int c = 0; c < 4; c++) {
            Check.due("VARIABLES", x.clause(c, 1), want[c]);
        }
    }

    /** "2 the 7th ( that is open" */
    private static void sixOpen() {
        String six = "p(f(f(f(f(f(";
        sound(six + "a)))))).");
        sound(six + "a))))),f(f(f(f(f(a)))))).");
        sound(six + "a,b,c)))))).");
        sound(six + "a))))))|" + six + "a)))))).");
        fault(six + "f(a))))))).", 2, 13);
        fault(six + "f (a))))))).", 2, 14);
        fault(six + "f(", 2, 13);
        fault(six + "a,f(a))))))).", 2, 15);
        fault(six + "a))))),f(f(f(f(f(f(a))))))).", 2, 30);
        fault("p|" + six + "f(a))))))).", 2, 15);
        // Behind a VARIABLE no "(" can stand.
        fault(six + "X(a))))))).", 1, 13);
        fault(six + "(a))))))).", 1, 12);
    }

    /** "NAME: 1 to 8 of a .. z that stand together"; "1 (also a NAME of 9 letters)" at its first byte */
    private static void eightLetters() {
        sound("a.");
        sound("abcdefgh.");
        sound("-abcdefgh(abcdefgh(abcdefgh)).");
        fault("abcdefghi.", 1, 0);
        fault(" abcdefghi.", 1, 1);
        fault("-abcdefghi.", 1, 1);
        fault("p(abcdefghi).", 1, 2);
        fault("p(a,f(abcdefghi)).", 1, 6);
        fault("p|abcdefghi.", 1, 2);
        fault("a".repeat(600), 1, 0);
        // With a blank within they are two.
        fault("abcd efgh.", 1, 5);
        OppositePairs x = Check.told("a|aa|aaaaaaa|aaaaaaaa|zzzzzzzz|zzzzzzzy.");
        Check.due("unlike NAMES", x.look(2), 6);
        Check.due("LITERALS", Eye.literalsOf(x), "\nliterals; a aa aaaaaaa aaaaaaaa zzzzzzzz zzzzzzzy");
    }

    /** "VARIABLE: one of A .. Z"; "1 (also two great ones)" at the first byte */
    private static void oneGreatLetter() {
        sound("p(X).");
        fault("p(XY).", 1, 2);
        fault("p(XX).", 1, 2);
        fault("p(a,XYZ).", 1, 4);
        fault("p(X Y).", 1, 4);
        // A VARIABLE is no LITERAL, and has no TERMS.
        fault("X.", 1, 0);
        fault("-X.", 1, 1);
        fault("p|X.", 1, 2);
        fault("p(X(a)).", 1, 3);
        fault("X(a).", 1, 0);
    }

    /** "1 (also letters of both sorts)"; "all letters, small and great, that stand together: its first byte" */
    private static void lettersOfBothSorts() {
        for (String letters : new String[] {"aB", "Ba", "abC", "abcdefghI", "ABc", "aBc", "AbC"}) {
            fault(letters + ".", 1, 0);
            fault("p(" + letters + ").", 1, 2);
            fault("p|-" + letters + ".", 1, 3);
        }
        sound("p(a,B,c).");
    }

    /** "a .. z" and "A .. Z": the signs just beside them are none */
    private static void lettersAtTheirEnds() {
        sound("a|z|p(A,Z).");
        for (String sign : new String[] {"`", "{", "@", "["}) {
            fault(sign + ".", 1, 0);
            fault("p" + sign + ".", 1, 1);
            fault("p(" + sign + ").", 1, 2);
            fault("p(X" + sign + ").", 1, 3);
        }
    }

    /** "Between tokens blanks (32) and 10." */
    private static void blanksBetweenTokens() {
        String[] tokens = {"-", "p", "(", "f", "(", "X", ",", "a", ")", ")", "|", "q", "."};
        for (int at = 0; at <= tokens.length; at++) {
            for (int sign = 0; sign < 256; sign++) {
                StringBuilder text = new StringBuilder();
                int place = 0;
                for (int i = 0; i <= tokens.length; i++) {
                    if (i == at) {
                        place = text.length();
                        text.append((char) sign);
                    }
                    text.append(i < tokens.length ? tokens[i] : "");
                }
                if (sign == 32 || sign == 10) {
                    sound(text.toString());
                } else if (("-(),.|").indexOf(sign) < 0 && !Character.isLetter((char) sign) || sign > 127) {
                    fault(text.toString(), 1, place);
                }
            }
        }
        sound("  \n\n - \n p \n\n .  \n");
        fault("p q.", 1, 2);
        fault("p\nq.", 1, 2);
    }

    /** "(the end: THE TAPE's length)" */
    private static void theEndIsTheLength() {
        for (String text : new String[] {"p", "p|", "-", "p(", "p(a", "p(a,", "p(X", "p(a)", "p.q", "p. - "}) {
            fault(text, 1, text.length());
            fault(text + "  \n ", 1, text.length() + 4);
        }
        fault(" ".repeat(599) + "p", 1, 600);
        fault("p" + " ".repeat(599), 1, 600);
        fault(" ".repeat(599) + "-", 1, 600);
        sound(" ".repeat(598) + "p.");
        sound(" ".repeat(600));
    }

    /** "FAULTS, the first whose byte is least, of one byte the least number" */
    private static void leastByteThenLeastNumber() {
        fault("a|b|c|d|e|f|g|X", 2, 12);
        fault("p(a,b,c,d|", 2, 8);
        fault("p(a,b,X(,d)", 1, 7);
        fault("p(a,b|c,d).", 1, 5);
        fault("p(A,B,C)|p(D,E,F)|p(G,H,I,J).", 2, 24);
        fault("p(f(f(f(f(f(f(a,b,c,d", 2, 13);
        fault("q.q|.a|b|c|d|e|f|g.", 1, 4);
        fault("a|b|c|d|e|f|abcdefghi.", 1, 12);
        fault("p(a,b,c,abcdefghi).", 1, 8);
        fault("p(A,B,C)|p(D,E,F)|p(G,H,IJ).", 1, 24);
        fault("p.".repeat(16) + "Pp.", 1, 32);
        // The 4th TERM is the 9th VARIABLE, too.
        fault("p(A,B,C)|p(D,E,F)|p(G,H,A,I).", 2, 26);
    }

    /** "1 what can't stand there" */
    private static void whatCannotStandThere() {
        // Ahead of a LITERAL, of its NAME, of a TERM; behind a NAME, a TERM, a LITERAL; what may stand is in the text.
        String[][] rows = {{"", "-a"}, {"-", "a"}, {"p|", "-a"}, {"p(", "aX"}, {"p(a,", "aX"}, {"p", "(|."}, {"p(f", "(),"},
            {"p(X", "),"}, {"p(a)", "|."}, {"p(f(a)", "),"}, {"p.", "-a"}, {"-p", "(|."}};
        for (String[] row : rows) {
            for (char sign : "-(),.|aX".toCharArray()) {
                String text = row[0] + " " + sign;
                OppositePairs x = new OppositePairs();
                Check.tell(x, text);
                boolean stands = x.fault(0) == 0 || x.fault(1) == text.length();
                Check.due("what stands in " + text, stands, row[1].indexOf(sign) >= 0);
                Check.due("its place in " + text, stands || x.fault(0) == 1 && x.fault(1) == text.length() - 1, true);
            }
        }
    }
}
