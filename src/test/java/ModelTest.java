import java.util.Random;

/** Clauses by chance (always the same ones), asked here and of the model: promises 10 to 22. */
public final class ModelTest {
    private static final String[] NAMES = {"p", "q", "r"};
    private static int found;
    private static int givenUp;
    private static int skipped;
    private static boolean ended;

    private static String term(Random random, int depth, int variables) {
        int what = random.nextInt(depth > 0 ? 6 : 4);
        if (what < 2) {
            return String.valueOf((char) ('U' + random.nextInt(variables)));
        }
        if (what < 4) {
            return random.nextBoolean() ? "a" : "b";
        }
        if (what == 4) {
            return "f(" + term(random, depth - 1, variables) + ")";
        }
        return "g(" + term(random, depth - 1, variables) + "," + term(random, depth - 1, variables) + ")";
    }

    private static String literal(Random random, int kind, int variables) {
        String sign = random.nextBoolean() ? "-" : "";
        int name = random.nextInt(kind == 0 ? 3 : 2);
        if (kind == 0) {
            return sign + NAMES[name];
        }
        int terms = kind == 1 ? 1 : 1 + name;
        StringBuilder all = new StringBuilder(sign).append(NAMES[name]);
        for (int i = 0; i < terms; i++) {
            all.append(i == 0 ? "(" : ",").append(term(random, kind, variables));
        }
        return all.append(")").toString();
    }

    private static String clauses(Random random) {
        int kind = random.nextInt(4);
        int count = 2 + random.nextInt(5);
        StringBuilder all = new StringBuilder();
        for (int c = 0; c < count; c++) {
            int literals = 1 + random.nextInt(random.nextInt(4) + 1);
            for (int k = 0; k < literals; k++) {
                all.append(k == 0 ? "" : "|").append(literal(random, kind, 1 + random.nextInt(3)));
            }
            all.append(random.nextBoolean() ? "." : ".\n ");
        }
        return all.toString();
    }

    private static String doubled(Random random, int depth) {
        int what = random.nextInt(depth > 0 ? 9 : 4);
        if (what < 4) {
            return what == 3 ? "a" : String.valueOf((char) ('U' + random.nextInt(4)));
        }
        String one = doubled(random, depth - 1);
        if (what == 8) {
            return "g(" + one + "," + doubled(random, depth - 1) + ")";
        }
        return what < 6 ? "g(" + one + "," + one + ")" : "f(" + one + "," + one + "," + one + ")";
    }

    /** Clauses that double and triple what is bound: LITERALS come to have more than 40 parts, and more than 300 bytes. */
    private static String growing(Random random) {
        StringBuilder all = new StringBuilder();
        int count = 3 + random.nextInt(4);
        for (int c = 0; c < count; c++) {
            int literals = 1 + random.nextInt(random.nextInt(5) + 1);
            for (int k = 0; k < literals; k++) {
                String sign = random.nextBoolean() ? "-" : "";
                String first = doubled(random, random.nextInt(3));
                String more = random.nextInt(3) == 0 ? "e(" : "d(" + doubled(random, random.nextInt(2)) + ",";
                all.append(k == 0 ? "" : "|").append(sign).append(more).append(first).append(")");
            }
            all.append(".");
        }
        all.append(random.nextBoolean() ? "-d(f(X,X,X),X)." : "d(g(X,X),X).");
        all.append(random.nextBoolean() ? "d(A,B)|d(B,C)|d(C,D)|e(D)|d(A,D).-e(X)." : "");
        return all.toString();
    }

    private static void compareMeeting(OppositePairs x, Model model) {
        for (int c = 0; c < model.clauses.size(); c++) {
            for (int k = 0; k < model.clauses.get(c).size(); k++) {
                int partners = 0;
                for (int d = 0; d < model.clauses.size(); d++) {
                    for (int m = 0; m < model.clauses.get(d).size(); m++) {
                        boolean meets = model.meets(c, k, d, m);
                        partners += meets ? 1 : 0;
                        Check.due("meets", x.meets(c, k, d, m), meets ? 1 : 0);
                    }
                }
                Check.due("partners", x.partners(c, k), partners);
            }
        }
        Check.due("pure", x.pure(), model.pure());
    }

    private static void compareProof(OppositePairs x, Model model) {
        Check.due("tried(0)", x.tried(0), model.tries);
        Check.due("tried(1)", x.tried(1), model.longest);
        Check.due("tried(2)", x.tried(2), model.cuts);
        Check.due("tried(3)", x.tried(3), model.extensions);
        Check.due("look(4)", x.look(4), model.proof == null ? 0 : 1);
        if (model.proof == null) {
            Check.due("step(-1)", x.step(-1, 0), -1);
            return;
        }
        found++;
        Check.due("step(-1)", x.step(-1, 0), model.proof.steps().size());
        int[] kinds = new int[4];
        for (int i = 0; i < model.proof.steps().size(); i++) {
            Model.Step step = model.proof.steps().get(i);
            kinds[step.kind()]++;
            Check.due("step 0", x.step(i, 0), step.kind());
            Check.due("step 1", x.step(i, 1), step.goal().instance());
            Check.due("step 2", x.step(i, 2), step.goal().literal());
            Check.due("step 3", x.step(i, 3), step.by().instance());
            Check.due("step 4", x.step(i, 4), step.by().literal());
            Check.due("step 5", x.step(i, 5), step.path());
        }
        for (int kind = 1; kind <= 3; kind++) {
            Check.due("look", x.look(4 + kind), kinds[kind]);
        }
        compareInstances(x, model);
    }

    private static void compareInstances(OppositePairs x, Model model) {
        int count = model.proof.instances().size();
        Check.due("instance(-1)", x.instance(-1), count);
        int needed = 0;
        for (int i = 0; i < count; i++) {
            int clause = model.proof.instances().get(i);
            Check.due("instance", x.instance(i), clause);
            for (int k = 0; k < model.clauses.get(clause).size(); k++) {
                Model.Goal goal = new Model.Goal(i, k);
                String want = (model.plus(model.proof, goal) ? "" : "-") + Model.text(model.atom(model.proof, goal));
                Check.due("shown", Check.shown(x, i, k), want.length() > 300 ? "none" : want);
            }
            int closed = model.closed(i);
            needed |= closed == 0 ? 1 << i : 0;
            Check.due("closed", x.closed(i), closed);
            for (int k = 0; k < count; k++) {
                Check.due("open", x.open(i, k), model.way == null ? -1 : model.way[k]);
            }
        }
        Check.due("closed(-1)", x.closed(-1), model.closed(-1));
        Check.due("needed", x.needed(), needed);
    }

    private static void compareSearches(OppositePairs x, Model model, Random random) {
        int start = random.nextInt(model.clauses.size());
        int options = random.nextInt(8);
        int depth = random.nextInt(5) == 0 ? 6 + random.nextInt(15) : random.nextInt(6);
        model.begin();
        int want = model.solve(start, depth, options);
        givenUp += want == -2 ? 1 : 0;
        Check.due("solve(" + start + "," + depth + "," + options + ")", x.solve(start, depth, options), want);
        compareProof(x, model);

        model.begin();
        want = -1;
        for (int d = 0; d <= depth && want == -1; d++) {
            int one = model.solve(start, d, options);
            want = one == 1 ? d : one == 0 ? -1 : -2;
        }
        Check.due("deepen(" + start + "," + depth + "," + options + ")", x.deepen(start, depth, options), want);
        compareProof(x, model);

        model.begin();
        want = -1;
        for (int s = 0; s < model.clauses.size() && want == -1; s++) {
            int one = model.solve(s, depth, options);
            want = one == 1 ? s : one == 0 ? -1 : -2;
        }
        Check.due("any(" + depth + "," + options + ")", x.any(depth, options), want);
        compareProof(x, model);
    }

    private static void compare(int seed, String text, Random random) {
        if (text.length() > 600) {
            return;
        }
        Model.budget = 3000000;
        try {
            Model model = new Model(text);
            OppositePairs x = Check.told(text);
            compareMeeting(x, model);
            for (int n = 0; n < 4; n++) {
                compareSearches(x, model, random);
            }
        } catch (Model.TooGreat enough) {
            skipped++;
        }
        if (Check.isWrong()) {
            System.out.println("seed " + seed + ": " + text);
        }
    }

    private static void compareAll(int from, int rounds) {
        for (int seed = from; seed < from + rounds && !Check.isWrong(); seed++) {
            Random random = new Random(seed);
            compare(seed, seed % 5 == 4 ? growing(random) : clauses(random), random);
        }
        ended = true;
    }

    public static void main(String[] args) throws InterruptedException {
        int rounds = args.length > 0 ? Integer.parseInt(args[0]) : 1500;
        int from = args.length > 1 ? Integer.parseInt(args[1]) : 0;
        // The model, not the class, goes deep: it needs more room for that than .ci/run gives.
        Thread thread = new Thread(null, () -> compareAll(from, rounds), "model", 1 << 28);
        thread.start();
        thread.join();
        Check.due("nothing was thrown", ended, true);
        Check.due("enough proofs", found > rounds, true);
        System.out.println(found + " proofs, " + givenUp + " given up, " + skipped + " too great for the model");
        Check.finish("ModelTest");
    }
}
