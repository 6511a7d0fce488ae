import java.lang.management.ManagementFactory;
import java.util.Random;

/** Calls of all kinds in any order with any arguments: none throws, all end, and a run makes little. */
public final class WildTest {
    private static final int CALLS = 512;
    /** Some 7.3 million fields and elements are allowed; a long has 8 bytes, and there is what each object is told by. */
    private static final long MOST_BYTES = 2000000;
    private static final String[] TEXTS = {
        "p(X)|q(X,Y). -p(f(a)). -q(f(a),g(Z)). -q(X,X).",
        "e(X,X). -e(X,Y)|e(Y,X). -e(X,Y)|-e(Y,Z)|e(X,Z). e(a,b). e(c,b). -e(a,c).",
        "p|q. -p|q. p|-q. -p|-q.",
        "d(A,B)|d(B,C)|d(C,D)|d(D,E)|d(E,F)|e(F). -e(F)|d(F,G)|d(G,H). -d(f(X,X,X),X).",
        "a|a|a|a|c. -a|b|b|b|b|b. -c|b|b|b|b. -b.",
        "p(X,Y). -p(X,Y)|p(Y,X). -p(X,Y)|p(X,X). -p(X,Y)|p(f(Y),f(Y)).",
        "p(c(A,B,C),c(D,f(E,E),f(F,F)),c(f(G,G),f(H,H),c(A,A,A))). "
            + "-p(c(f(X,X),f(Y,Y),f(Z,Z)),c(f(V,V),U,X),c(Y,Z,c(U,U,U)))|p(X,Y,Z)|-p(Z,Y,X).",
        "-p(X,f(X))|p(X,f(f(X))). p(a,f(a)). -p(Y,f(f(f(f(Y))))). -p(Y,f(f(Z)))|p(f(Y),Z)."};

    private static int some(Random random) {
        switch (random.nextInt(12)) {
            case 0:
                return random.nextInt();
            case 1:
                return random.nextBoolean() ? Integer.MAX_VALUE : Integer.MIN_VALUE;
            case 2:
                return -random.nextInt(4);
            case 3:
                return random.nextInt(40);
            default:
                return random.nextInt(8);
        }
    }

    private static long call(OppositePairs x, Random random) {
        int a = some(random);
        int b = some(random);
        int c = some(random);
        switch (random.nextInt(25)) {
            case 0:
                return x.feed(a, b, c, some(random), some(random));
            case 1:
                return x.end(random.nextInt(3) == 0 ? a : x.look(3)) ? 1 : 0;
            case 2:
                return random.nextInt(8) == 0 ? x.clauses() : x.fault(a);
            case 3:
                return random.nextInt(8) == 0 && x.drop(a) ? 1 : 0;
            case 4:
                return x.clause(a, b);
            case 5:
                return x.show(a, b);
            case 6:
                return x.out(a);
            case 7:
                return x.meets(a, b, c, some(random));
            case 8:
                return x.partners(a, b);
            case 9:
                return x.pure();
            case 10:
                return x.tried(a);
            case 11:
                return x.step(a, b);
            case 12:
                return x.instance(a);
            case 13:
                return x.shown(a, b);
            case 14:
                return x.closed(a);
            case 15:
                return x.open(a, b);
            case 16:
                return x.needed();
            case 17:
                return x.answer(a, b);
            case 18:
                return x.look(a);
            case 19:
            case 20:
                return x.solve(a, b, c);
            case 21:
            case 22:
                return x.deepen(a, b, c);
            default:
                return x.any(a, b);
        }
    }

    private static long sumOf(int seed) {
        Random random = new Random(seed);
        OppositePairs x = Check.told(TEXTS[seed % TEXTS.length]);
        long sum = 0;
        for (int n = 0; n < CALLS; n++) {
            sum = sum * 31 + call(x, random);
        }
        return sum;
    }

    private static long allocated() {
        return ((com.sun.management.ThreadMXBean) ManagementFactory.getThreadMXBean())
                .getThreadAllocatedBytes(Thread.currentThread().getId());
    }

    private static void dearRun(String text, int options) {
        OppositePairs x = Check.told(text);
        long before = allocated();
        OppositePairs made = new OppositePairs();
        made.clauses();
        for (int n = 0; n < CALLS; n++) {
            x.any(20, options);
            x.needed();
            x.pure();
        }
        Check.due("few bytes made", allocated() - before < MOST_BYTES, true);
    }

    public static void main(String[] args) {
        int rounds = args.length > 0 ? Integer.parseInt(args[0]) : 300;
        for (int seed = 0; seed < rounds; seed++) {
            Check.due("the same calls, the same answers", sumOf(seed), sumOf(seed));
        }
        for (String text : TEXTS) {
            dearRun(text, 0);
            dearRun(text, 3);
        }
        Check.finish("WildTest");
    }
}
