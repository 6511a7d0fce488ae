import java.util.ArrayList;
import java.util.HashMap;
import java.util.List;
import java.util.Map;
import java.util.function.Function;

/**
 * The document's search and matrix once more, in another manner: terms are objects, what is bound is a map that is
 * copied, the search is recursion with what is to be done behind it as a function. For small clauses only.
 */
final class Model {
    record Term(String name, boolean variable, List<Term> terms) {
    }

    record Literal(boolean plus, Term atom) {
    }

    record Goal(int instance, int literal) {
    }

    record Step(int kind, Goal goal, Goal by, int path) {
    }

    record State(Map<String, Term> bound, List<Integer> instances, List<Step> steps) {
        State plus(Step step) {
            List<Step> more = new ArrayList<>(steps);
            more.add(step);
            return new State(bound, instances, more);
        }
    }

    static final class GivenUp extends RuntimeException {
        private static final long serialVersionUID = 1L;
    }

    /** What is put in has come to be too much for this model: it can't tell. */
    static final class TooGreat extends RuntimeException {
        private static final long serialVersionUID = 1L;
    }

    interface Way extends Function<State, State> {
    }

    /** How many parts may still be put in. */
    static long budget = Long.MAX_VALUE;

    final List<List<Literal>> clauses;
    int depth;
    int options;
    int tries;
    int longest;
    int cuts;
    int extensions;
    State proof;

    Model(String text) {
        clauses = new Parser(text).all();
    }

    private static final class Parser {
        private final String text;
        private int at;

        Parser(String text) {
            this.text = text.replace(" ", "").replace("\n", "");
        }

        List<List<Literal>> all() {
            List<List<Literal>> found = new ArrayList<>();
            while (at < text.length()) {
                List<Literal> clause = new ArrayList<>();
                do {
                    boolean minus = text.charAt(at) == '-';
                    at += minus ? 1 : 0;
                    clause.add(new Literal(!minus, term()));
                } while (text.charAt(at++) == '|');
                found.add(clause);
            }
            return found;
        }

        private Term term() {
            int from = at;
            while (Character.isLetter(text.charAt(at))) {
                at++;
            }
            String name = text.substring(from, at);
            List<Term> terms = new ArrayList<>();
            if (text.charAt(at) == '(') {
                do {
                    at++;
                    terms.add(term());
                } while (text.charAt(at) == ',');
                at++;
            }
            return new Term(name, Character.isUpperCase(name.charAt(0)), terms);
        }
    }

    static Term copy(Term term, int instance) {
        if (term.variable) {
            return new Term(term.name + instance, true, List.of());
        }
        List<Term> terms = new ArrayList<>();
        for (Term each : term.terms) {
            terms.add(copy(each, instance));
        }
        return new Term(term.name, false, terms);
    }

    static Term put(Term term, Map<String, Term> bound) {
        if (--budget < 0) {
            throw new TooGreat();
        }
        if (term.variable) {
            Term to = bound.get(term.name);
            return to == null ? term : put(to, bound);
        }
        List<Term> terms = new ArrayList<>();
        for (Term each : term.terms) {
            terms.add(put(each, bound));
        }
        return new Term(term.name, false, terms);
    }

    static String text(Term term) {
        if (term.terms.isEmpty()) {
            return term.name;
        }
        StringBuilder all = new StringBuilder(term.name);
        for (int i = 0; i < term.terms.size(); i++) {
            all.append(i == 0 ? '(' : ',').append(text(term.terms.get(i)));
        }
        return all.append(')').toString();
    }

    static int parts(Term term) {
        int sum = 1;
        for (Term each : term.terms) {
            sum += parts(each);
        }
        return sum;
    }

    static boolean has(Term term, String variable) {
        if (term.variable) {
            return term.name.equals(variable);
        }
        for (Term each : term.terms) {
            if (has(each, variable)) {
                return true;
            }
        }
        return false;
    }

    /** What is bound then, or null; one pair of unlike places after the other, all put in anew each time. */
    static Map<String, Term> unify(Term first, Term other, Map<String, Term> bound) {
        Map<String, Term> now = new HashMap<>(bound);
        while (true) {
            Term[] unlike = new Term[2];
            if (firstUnlike(put(first, now), put(other, now), unlike)) {
                return now;
            }
            Term a = unlike[0];
            Term b = unlike[1];
            if (a.variable && !has(b, a.name)) {
                now.put(a.name, b);
            } else if (!a.variable && b.variable && !has(a, b.name)) {
                now.put(b.name, a);
            } else {
                return null;
            }
        }
    }

    private static boolean firstUnlike(Term a, Term b, Term[] unlike) {
        if (a.variable || b.variable || !a.name.equals(b.name) || a.terms.size() != b.terms.size()) {
            if (a.equals(b)) {
                return true;
            }
            unlike[0] = a;
            unlike[1] = b;
            return false;
        }
        for (int i = 0; i < a.terms.size(); i++) {
            if (!firstUnlike(a.terms.get(i), b.terms.get(i), unlike)) {
                return false;
            }
        }
        return true;
    }

    boolean meets(int c, int k, int d, int m) {
        Literal one = clauses.get(c).get(k);
        Literal two = clauses.get(d).get(m);
        return one.plus != two.plus && unify(copy(one.atom, 0), copy(two.atom, 1), Map.of()) != null;
    }

    int pure() {
        List<Integer> left = new ArrayList<>();
        for (int c = 0; c < clauses.size(); c++) {
            left.add(c);
        }
        int bits = 0;
        while (true) {
            List<Integer> stay = new ArrayList<>();
            for (int c : left) {
                boolean all = true;
                for (int k = 0; k < clauses.get(c).size(); k++) {
                    boolean one = false;
                    for (int d : left) {
                        for (int m = 0; m < clauses.get(d).size(); m++) {
                            one |= meets(c, k, d, m);
                        }
                    }
                    all &= one;
                }
                if (all) {
                    stay.add(c);
                } else {
                    bits |= 1 << c;
                }
            }
            if (stay.size() == left.size()) {
                return bits;
            }
            left = stay;
        }
    }

    void begin() {
        tries = 0;
        longest = 0;
        cuts = 0;
        extensions = 0;
        proof = null;
    }

    int solve(int start, int itsDepth, int itsOptions) {
        depth = itsDepth;
        options = itsOptions;
        State first = new State(Map.of(), List.of(start), List.of());
        try {
            proof = close(first, row(first, 0, -1), List.of(), List.of(), s -> s);
            return proof == null ? 0 : 1;
        } catch (GivenUp enough) {
            proof = null;
            return -2;
        }
    }

    private List<Goal> row(State state, int instance, int without) {
        List<Goal> goals = new ArrayList<>();
        for (int k = 0; k < clauses.get(state.instances.get(instance)).size(); k++) {
            if (k != without) {
                goals.add(new Goal(instance, k));
            }
        }
        return goals;
    }

    boolean plus(State state, Goal goal) {
        return clauses.get(state.instances.get(goal.instance)).get(goal.literal).plus;
    }

    Term atom(State state, Goal goal) {
        Term told = clauses.get(state.instances.get(goal.instance)).get(goal.literal).atom;
        return put(copy(told, goal.instance), state.bound);
    }

    private boolean alike(State state, Goal a, Goal b) {
        return plus(state, a) == plus(state, b) && atom(state, a).equals(atom(state, b));
    }

    private void countTry() {
        if (tries == 1000) {
            throw new GivenUp();
        }
        tries++;
    }

    private static <T> List<T> more(List<T> some, T one) {
        List<T> all = new ArrayList<>(some);
        all.add(one);
        return all;
    }

    private State close(State state, List<Goal> row, List<Goal> path, List<Goal> lemmas, Way behind) {
        if (row.isEmpty()) {
            return behind.apply(state);
        }
        if ((options & 1) != 0) {
            for (Goal goal : row) {
                for (Goal on : path) {
                    if (parts(atom(state, goal)) <= 40 && alike(state, goal, on)) {
                        cuts++;
                        return null;
                    }
                }
            }
        }
        Goal goal = row.get(0);
        if (parts(atom(state, goal)) > 40) {
            return null;
        }
        List<Goal> rest = row.subList(1, row.size());
        List<Goal> richer = (options & 2) != 0 ? more(lemmas, goal) : lemmas;
        Way onward = s -> close(s, rest, path, richer, behind);
        if ((options & 4) == 0) {
            return closeOne(state, goal, path, lemmas, onward);
        }
        State one = closeOne(state, goal, path, lemmas, s -> s);
        return one == null ? null : onward.apply(one);
    }

    private State closeOne(State state, Goal goal, List<Goal> path, List<Goal> lemmas, Way onward) {
        for (int i = lemmas.size() - 1; i >= 0; i--) {
            if (alike(state, lemmas.get(i), goal)) {
                State done = onward.apply(state.plus(new Step(1, goal, lemmas.get(i), path.size())));
                if (done != null) {
                    return done;
                }
                break;
            }
        }
        Term own = atom(state, goal);
        for (int i = path.size() - 1; i >= 0; i--) {
            Goal by = path.get(i);
            Term other = atom(state, by);
            if (parts(other) > 40 || plus(state, by) == plus(state, goal) || !likeNames(own, other)) {
                continue;
            }
            countTry();
            Map<String, Term> bound = unify(own, other, state.bound);
            if (bound != null) {
                State next = new State(bound, state.instances, state.steps);
                State done = onward.apply(next.plus(new Step(2, goal, by, path.size())));
                if (done != null) {
                    return done;
                }
            }
        }
        return path.size() < depth ? extend(state, goal, path, lemmas, onward) : null;
    }

    private static boolean likeNames(Term a, Term b) {
        return a.name.equals(b.name) && a.terms.size() == b.terms.size();
    }

    private State extend(State state, Goal goal, List<Goal> path, List<Goal> lemmas, Way onward) {
        Term own = atom(state, goal);
        for (int c = 0; c < clauses.size(); c++) {
            for (int k = 0; k < clauses.get(c).size(); k++) {
                Literal by = clauses.get(c).get(k);
                if (by.plus == plus(state, goal) || !likeNames(own, by.atom)) {
                    continue;
                }
                countTry();
                int made = state.instances.size();
                Map<String, Term> bound = made == 30 ? null : unify(own, copy(by.atom, made), state.bound);
                if (bound == null) {
                    continue;
                }
                extensions++;
                longest = Math.max(longest, path.size() + 1);
                State next = new State(bound, more(state.instances, c), state.steps);
                next = next.plus(new Step(3, goal, new Goal(made, k), path.size()));
                State done = close(next, row(next, made, k), more(path, goal), lemmas, onward);
                if (done != null) {
                    return done;
                }
            }
        }
        return null;
    }

    private int looks;
    /** The first OPEN way by INSTANCES (-1 for the one that is left out), null if there is none. */
    int[] way;

    int closed(int without) {
        looks = 0;
        way = null;
        try {
            return walk(0, without, new int[proof.instances.size()]) ? 0 : 1;
        } catch (GivenUp enough) {
            return -2;
        }
    }

    private boolean walk(int at, int without, int[] chosen) {
        if (at == chosen.length) {
            way = chosen.clone();
            return true;
        }
        if (at == without) {
            chosen[at] = -1;
            return walk(at + 1, without, chosen);
        }
        for (int k = 0; k < clauses.get(proof.instances.get(at)).size(); k++) {
            if (looks == 20000) {
                throw new GivenUp();
            }
            looks++;
            chosen[at] = k;
            if (!closes(at, k, chosen) && walk(at + 1, without, chosen)) {
                return true;
            }
        }
        return false;
    }

    private boolean closes(int at, int k, int[] chosen) {
        Goal own = new Goal(at, k);
        Term atom = atom(proof, own);
        for (int i = 0; i < at; i++) {
            Goal other = new Goal(i, chosen[i]);
            if (chosen[i] >= 0 && plus(proof, other) != plus(proof, own) && parts(atom) <= 2000
                    && atom(proof, other).equals(atom)) {
                return true;
            }
        }
        return false;
    }
}
