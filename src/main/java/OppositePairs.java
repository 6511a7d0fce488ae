import java.util.Arrays;

/** Connection proofs of clauses that are told as a text; the document's promises 1 to 24. */
public final class OppositePairs {
    public static final int NONE = -1;

    private static final int CLAUSES = 16;
    private static final int LITERALS = 6;
    private static final int TERMS = 3;
    private static final int VARIABLES = 8;
    private static final int NESTED = 6;
    private static final int TAPE = 600;
    /** Behind each part on THE TAPE stands a sign of its own, so that it has two bytes at least. */
    private static final int PARTS = 300;

    private static final int INSTANCES = 30;
    /** Two INSTANCES more, in which meets() can UNIFY beside what THE PROOF has bound. */
    private static final int ASIDE = 30;
    private static final int BESIDE = 31;
    private static final int SLOTS = 32;
    private static final int CELLS = SLOTS * VARIABLES;
    private static final int HOLD = 2048;

    private static final int DEPTHS = 20;
    private static final int OPTIONS = 7;
    private static final int REGULAR = 1;
    private static final int LEMMATA = 2;
    private static final int RESTRICTED = 4;
    private static final int SMALL = 40;
    private static final int LARGE = 2000;
    private static final int TRIES = 1000;
    private static final int LOOKS = 20000;
    private static final int SHOWN = 300;
    private static final int ANSWERS = 8;

    private static final int BY_LEMMA = 1;
    private static final int BY_REDUCTION = 2;
    private static final int BY_EXTENSION = 3;

    private static final int GIVEN_UP = -2;
    private static final int CANNOT_BE = -3;
    private static final int UNTOLD = -2;

    /** Each step closes another LITERAL of an INSTANCE, and makes two rows and two links at most. */
    private static final int STEPS = INSTANCES * LITERALS;
    private static final int ROWS = 1 + 2 * STEPS;
    private static final int LINKS = INSTANCES + STEPS;
    /** Far above what a loop without a bound of its own can need. */
    private static final int MANY = 1000000;

    private final Reader reader = new Reader();
    private final Told told = new Told();
    private final Told draft = new Told();
    private final Bonds bonds = new Bonds(told);
    private final Writer writer = new Writer(told, bonds);
    private final Prover prover = new Prover(told, bonds);
    private final Matrix matrix = new Matrix(told, bonds, prover);
    private final Answers answers = new Answers();

    public OppositePairs() {
    }

    public int feed(int a, int b, int c, int d, int e) {
        if (reader.length + 20 > TAPE) {
            return NONE;
        }
        reader.take(a);
        reader.take(b);
        reader.take(c);
        reader.take(d);
        reader.take(e);
        return reader.length;
    }

    public boolean end(int n) {
        if (n < 0 || n > reader.length) {
            return false;
        }
        reader.length = n;
        return true;
    }

    public int clauses() {
        // A draft first: with a FAULT the CLAUSES stay as they are.
        reader.read(draft);
        boolean sound = reader.fault == 0;
        if (sound) {
            reader.read(told);
            forgetAll();
        }
        reader.length = 0;
        return sound ? told.clauses : NONE;
    }

    public int fault(int what) {
        switch (what) {
            case 0:
                return reader.fault;
            case 1:
                return reader.place;
            default:
                return NONE;
        }
    }

    public boolean drop(int clause) {
        if (!told.isClause(clause)) {
            return false;
        }
        told.remove(clause);
        forgetAll();
        return true;
    }

    public int clause(int clause, int what) {
        if (!told.isClause(clause)) {
            return NONE;
        }
        switch (what) {
            case 0:
                return told.literals[clause];
            case 1:
                return told.variables[clause];
            case 2:
                return partsOf(clause);
            case 3:
                return told.plus[clause];
            default:
                if (what < 10 || !told.isLiteral(clause, what - 10)) {
                    return NONE;
                }
                return told.terms[told.part(clause, what - 10)];
        }
    }

    public int show(int clause, int k) {
        if (!told.isLiteral(clause, k)) {
            return NONE;
        }
        return writer.write(place(ASIDE, clause, k), !told.isPlus(clause, k), TAPE);
    }

    public int out(int i) {
        if (i < 0 || i >= writer.length) {
            return NONE;
        }
        return writer.bytes[i];
    }

    public int meets(int clause, int k, int other, int m) {
        if (!told.isLiteral(clause, k) || !told.isLiteral(other, m)) {
            return NONE;
        }
        return meeting(clause, k, other, m) ? 1 : 0;
    }

    public int partners(int clause, int k) {
        if (!told.isLiteral(clause, k)) {
            return NONE;
        }
        return partnersAmong(clause, k, told.all());
    }

    public int pure() {
        int left = told.all();
        for (int round = 0; round < CLAUSES; round++) {
            int going = 0;
            for (int c = 0; c < told.clauses; c++) {
                if ((left >> c & 1) == 1 && hasLonely(c, left)) {
                    going |= 1 << c;
                }
            }
            if (going == 0) {
                break;
            }
            left &= ~going;
        }
        return told.all() & ~left;
    }

    public int solve(int start, int depth, int options) {
        if (!told.isClause(start) || !canBe(depth, options)) {
            return NONE;
        }
        begin();
        int found = prover.prove(start, depth, options);
        answers.put(start, depth, options, found);
        return found;
    }

    public int deepen(int start, int most, int options) {
        if (!told.isClause(start) || !canBe(most, options)) {
            return CANNOT_BE;
        }
        begin();
        for (int depth = 0; depth <= most; depth++) {
            int found = prover.prove(start, depth, options);
            if (found != 0) {
                return found == 1 ? depth : GIVEN_UP;
            }
        }
        return NONE;
    }

    public int any(int depth, int options) {
        if (!canBe(depth, options)) {
            return CANNOT_BE;
        }
        begin();
        for (int start = 0; start < told.clauses; start++) {
            int found = prover.prove(start, depth, options);
            if (found != 0) {
                return found == 1 ? start : GIVEN_UP;
            }
        }
        return NONE;
    }

    public int tried(int what) {
        switch (what) {
            case 0:
                return prover.tries;
            case 1:
                return prover.longest;
            case 2:
                return prover.cuts;
            case 3:
                return prover.extensions;
            default:
                return NONE;
        }
    }

    public int step(int i, int what) {
        if (!prover.proved) {
            return NONE;
        }
        if (i == NONE) {
            return prover.stepCount;
        }
        Step found = prover.stepAt(i);
        if (found == null || found.row == null) {
            return NONE;
        }
        switch (what) {
            case 0:
                return found.kind;
            case 1:
                return found.row.instance;
            case 2:
                return found.row.next;
            case 3:
                return found.byInstance;
            case 4:
                return found.byLiteral;
            case 5:
                return lengthOf(found.row.path);
            default:
                return NONE;
        }
    }

    public int instance(int i) {
        if (!prover.proved) {
            return NONE;
        }
        if (i == NONE) {
            return prover.instances;
        }
        return isInstance(i) ? prover.clauseOf[i] : NONE;
    }

    public int shown(int i, int k) {
        if (!isInstance(i)) {
            return NONE;
        }
        int clause = prover.clauseOf[i];
        if (!told.isLiteral(clause, k)) {
            return NONE;
        }
        return writer.write(place(i, clause, k), !told.isPlus(clause, k), SHOWN);
    }

    public int closed(int i) {
        if (!prover.proved || i != NONE && !isInstance(i)) {
            return NONE;
        }
        return matrix.walk(i);
    }

    public int open(int i, int k) {
        if (!isInstance(i) || !isInstance(k) || k == i || matrix.walk(i) != 0) {
            return NONE;
        }
        return matrix.chosen[k < i ? k : k - 1];
    }

    public int needed() {
        if (!prover.proved) {
            return 0;
        }
        int bits = 0;
        for (int i = 0; i < prover.instances; i++) {
            if (matrix.walk(i) == 0) {
                bits |= 1 << i;
            }
        }
        return bits;
    }

    public int answer(int k, int what) {
        if (k == NONE) {
            return answers.count;
        }
        if (k < 0 || k >= answers.count) {
            return NONE;
        }
        switch (what) {
            case 0:
                return answers.start[k];
            case 1:
                return answers.depth[k];
            case 2:
                return answers.options[k];
            case 3:
                return answers.found[k];
            default:
                return NONE;
        }
    }

    public int look(int what) {
        switch (what) {
            case 0:
                return told.clauses;
            case 1:
                return told.countLiterals();
            case 2:
                return told.countNames();
            case 3:
                return reader.length;
            case 4:
                return prover.proved ? 1 : 0;
            case 5:
                return prover.countSteps(BY_LEMMA);
            case 6:
                return prover.countSteps(BY_REDUCTION);
            case 7:
                return prover.countSteps(BY_EXTENSION);
            case 8:
                return answers.again;
            default:
                return NONE;
        }
    }

    private void forgetAll() {
        prover.proved = false;
        matrix.forget();
        answers.count = 0;
    }

    private void begin() {
        matrix.forget();
        prover.forgetCounts();
    }

    private boolean isInstance(int i) {
        return prover.proved && i >= 0 && i < prover.instances;
    }

    private int partsOf(int clause) {
        int sum = 0;
        for (int k = 0; k < told.literals[clause]; k++) {
            sum += bonds.parts(place(ASIDE, clause, k), PARTS);
        }
        return sum;
    }

    private boolean meeting(int clause, int k, int other, int m) {
        if (!told.areOpposite(clause, k, other, m)) {
            return false;
        }
        int mark = bonds.trailed;
        boolean fits = bonds.unify(place(ASIDE, clause, k), place(BESIDE, other, m));
        bonds.undo(mark);
        return fits;
    }

    private int partnersAmong(int clause, int k, int left) {
        int count = 0;
        for (int c = 0; c < told.clauses; c++) {
            if ((left >> c & 1) == 1) {
                for (int m = 0; m < told.literals[c]; m++) {
                    count += meeting(clause, k, c, m) ? 1 : 0;
                }
            }
        }
        return count;
    }

    private boolean hasLonely(int clause, int left) {
        for (int k = 0; k < told.literals[clause]; k++) {
            if (partnersAmong(clause, k, left) == 0) {
                return true;
            }
        }
        return false;
    }

    private int place(int slot, int clause, int k) {
        return slot * PARTS + told.part(clause, k);
    }

    private static boolean canBe(int depth, int options) {
        return depth >= 0 && depth <= DEPTHS && options >= 0 && options <= OPTIONS;
    }

    private static int lengthOf(Link path) {
        return path == null ? 0 : path.length;
    }

    /** The CLAUSES as they were told; a VARIABLE of a CLAUSE is one part, wherever it stands. */
    private static final class Told {
        /** The letters of a NAME, five bits each; the one of a VARIABLE as it is. */
        private final long[] name = new long[PARTS];
        /** The number of a VARIABLE, NONE for a NAME. */
        private final int[] variable = new int[PARTS];
        private final int[] terms = new int[PARTS];
        private final int[] term = new int[PARTS * TERMS];
        private int parts;
        private final int[] literals = new int[CLAUSES];
        private final int[] variables = new int[CLAUSES];
        private final int[] plus = new int[CLAUSES];
        private final int[] first = new int[CLAUSES * LITERALS];
        private int clauses;

        private void clear() {
            parts = 0;
            clauses = 0;
        }

        private int add(long itsName, int itsVariable) {
            int part = Math.min(parts, PARTS - 1);
            name[part] = itsName;
            variable[part] = itsVariable;
            terms[part] = 0;
            parts = part + 1;
            return part;
        }

        private boolean isClause(int c) {
            return c >= 0 && c < clauses;
        }

        private boolean isLiteral(int c, int k) {
            return isClause(c) && k >= 0 && k < literals[c];
        }

        private boolean isPlus(int c, int k) {
            return (plus[c] >> k & 1) == 1;
        }

        private int part(int c, int k) {
            return first[c * LITERALS + k];
        }

        private int all() {
            return (1 << clauses) - 1;
        }

        private boolean areOpposite(int c, int k, int d, int m) {
            return isPlus(c, k) != isPlus(d, m) && haveLikeNames(part(c, k), part(d, m));
        }

        private boolean haveLikeNames(int p, int q) {
            return name[p] == name[q] && terms[p] == terms[q];
        }

        private void remove(int clause) {
            for (int c = clause; c + 1 < clauses; c++) {
                literals[c] = literals[c + 1];
                variables[c] = variables[c + 1];
                plus[c] = plus[c + 1];
                System.arraycopy(first, (c + 1) * LITERALS, first, c * LITERALS, LITERALS);
            }
            clauses--;
        }

        private int countLiterals() {
            int sum = 0;
            for (int c = 0; c < clauses; c++) {
                sum += literals[c];
            }
            return sum;
        }

        private int countNames() {
            int count = 0;
            for (int c = 0; c < clauses; c++) {
                for (int k = 0; k < literals[c]; k++) {
                    count += isNewName(c, k) ? 1 : 0;
                }
            }
            return count;
        }

        private boolean isNewName(int clause, int literal) {
            int own = part(clause, literal);
            for (int c = 0; c <= clause; c++) {
                int most = c == clause ? literal : literals[c];
                for (int k = 0; k < most; k++) {
                    if (haveLikeNames(own, part(c, k))) {
                        return false;
                    }
                }
            }
            return true;
        }
    }

    /** THE TAPE, and how it is read. */
    private static final class Reader {
        private static final int END = -1;
        private static final int NAME = 256;
        private static final int VARIABLE = 257;
        private static final int BAD = 258;
        private static final int LONGEST = 8;

        private final int[] bytes = new int[TAPE];
        private int length;
        private int fault;
        private int place = NONE;
        private Told into;
        private final int[] known = new int[VARIABLES];
        private int variables;
        private int at;
        private int behind;
        /** The sign that stands at the place, or one of the kinds above. */
        private int token;
        private long letters;

        private void take(int number) {
            for (int shift = 24; shift >= 0 && length < TAPE; shift -= 8) {
                bytes[length++] = number >> shift & 255;
            }
        }

        private void read(Told target) {
            into = target;
            into.clear();
            fault = 0;
            place = NONE;
            behind = 0;
            nextToken();
            for (int n = 0; n < TAPE && fault == 0 && token != END; n++) {
                readClause();
            }
        }

        private void blame(int kind) {
            fault = kind;
            place = at;
        }

        private boolean startsLiteral() {
            return token == '-' || token == NAME;
        }

        private void readClause() {
            if (!startsLiteral()) {
                blame(1);
                return;
            }
            if (into.clauses == CLAUSES) {
                blame(2);
                return;
            }
            int clause = into.clauses;
            into.plus[clause] = 0;
            variables = 0;
            for (int k = 0; k <= LITERALS; k++) {
                readLiteral(clause, k);
                if (fault != 0) {
                    return;
                }
                into.literals[clause] = k + 1;
                if (token != '|') {
                    break;
                }
                nextToken();
            }
            if (token != '.') {
                blame(1);
                return;
            }
            into.variables[clause] = variables;
            into.clauses++;
            nextToken();
        }

        private void readLiteral(int clause, int k) {
            if (!startsLiteral()) {
                blame(1);
                return;
            }
            if (k == LITERALS) {
                blame(2);
                return;
            }
            if (token == '-') {
                nextToken();
            } else {
                into.plus[clause] |= 1 << k;
            }
            if (token != NAME) {
                blame(1);
                return;
            }
            into.first[clause * LITERALS + k] = readPart(0);
        }

        /** A NAME with its TERMS, or a VARIABLE; around it so many "(" are open. */
        private int readPart(int nested) {
            boolean named = token == NAME;
            int part = named ? into.add(letters, NONE) : variablePart();
            if (fault != 0) {
                return part;
            }
            nextToken();
            if (!named || token != '(') {
                return part;
            }
            if (nested >= NESTED) {
                blame(2);
                return part;
            }
            for (int k = 0; k <= TERMS; k++) {
                nextToken();
                if (token != NAME && token != VARIABLE) {
                    blame(1);
                } else if (k == TERMS) {
                    blame(2);
                } else {
                    into.term[part * TERMS + k] = readPart(nested + 1);
                    into.terms[part] = k + 1;
                }
                if (fault != 0) {
                    return part;
                }
                if (token != ',') {
                    break;
                }
            }
            if (token == ')') {
                nextToken();
            } else {
                blame(1);
            }
            return part;
        }

        private int variablePart() {
            for (int v = 0; v < variables; v++) {
                if (into.name[known[v]] == letters) {
                    return known[v];
                }
            }
            if (variables == VARIABLES) {
                blame(2);
                return 0;
            }
            int part = into.add(letters, variables);
            known[variables++] = part;
            return part;
        }

        private void nextToken() {
            at = behind;
            while (at < length && (bytes[at] == ' ' || bytes[at] == 10)) {
                at++;
            }
            if (at >= length) {
                token = END;
            } else if (isSmall(bytes[at]) || isGreat(bytes[at])) {
                readLetters();
            } else {
                token = bytes[at];
                behind = at + 1;
            }
        }

        private void readLetters() {
            int small = 0;
            int great = 0;
            letters = 0;
            behind = at;
            while (behind < length && (isSmall(bytes[behind]) || isGreat(bytes[behind]))) {
                if (isSmall(bytes[behind])) {
                    small++;
                    letters = letters << 5 | bytes[behind] - 'a' + 1;
                } else {
                    great++;
                    letters = bytes[behind];
                }
                behind++;
            }
            if (great == 0 && small <= LONGEST) {
                token = NAME;
            } else {
                token = great == 1 && small == 0 ? VARIABLE : BAD;
            }
        }

        private static boolean isSmall(int sign) {
            return sign >= 'a' && sign <= 'z';
        }

        private static boolean isGreat(int sign) {
            return sign >= 'A' && sign <= 'Z';
        }
    }

    /**
     * What VARIABLES are bound to. A place is a part of an INSTANCE: its slot times PARTS and the part. Rows
     * instead of recursion: what is bound can be nested some thousand deep.
     */
    private static final class Bonds {
        private static final int JOINS = 1024;

        private final Told told;
        /** The place and 1; 0 of a VARIABLE that is not bound. */
        private final int[] bound = new int[CELLS];
        private final int[] trail = new int[CELLS];
        private int trailed;
        /**
         * Within one unify(): a place that is ALIKE by now, and 1. Without it what is bound twice in what is
         * bound twice (and so on) is gone through as often as all that put in has parts.
         */
        private final int[] same = new int[SLOTS * PARTS];
        private final int[] joined = new int[JOINS];
        private int joins;
        private final int[] left = new int[HOLD];
        private final int[] right = new int[HOLD];
        private int top;
        private final int[] hold = new int[HOLD];
        private final int[] seen = new int[CELLS];
        private int searches;

        private Bonds(Told told) {
            this.told = told;
        }

        private void undo(int mark) {
            while (trailed > mark && trailed > 0) {
                trailed--;
                bound[trail[trailed]] = 0;
            }
        }

        /** The place that stands there, all bound VARIABLES gone through. */
        private int bare(int place) {
            int at = place;
            for (int n = 0; n < CELLS; n++) {
                int variable = told.variable[at % PARTS];
                if (variable == NONE) {
                    return at;
                }
                int to = bound[at / PARTS * VARIABLES + variable];
                if (to == 0) {
                    return at;
                }
                at = to - 1;
            }
            return at;
        }

        private boolean isVariable(int place) {
            return told.variable[place % PARTS] != NONE;
        }

        private int cell(int place) {
            return place / PARTS * VARIABLES + told.variable[place % PARTS];
        }

        /** What was bound stays so, also if it fails: whoever asks has to undo() it. */
        private boolean unify(int first, int other) {
            left[0] = first;
            right[0] = other;
            top = 1;
            joins = 0;
            boolean fits = true;
            for (int n = 0; n < MANY && fits && top > 0; n++) {
                top--;
                if (left[top] < 0) {
                    join(-1 - left[top], right[top]);
                } else {
                    fits = pair(bare(left[top]), bare(right[top]));
                }
            }
            for (int i = 0; i < joins; i++) {
                same[joined[i]] = 0;
            }
            return fits && top == 0;
        }

        private boolean pair(int first, int other) {
            if (root(first) == root(other)) {
                return true;
            }
            if (isVariable(first) || isVariable(other)) {
                boolean forth = isVariable(first);
                int cell = cell(forth ? first : other);
                int to = forth ? other : first;
                if (trailed >= CELLS || has(to, cell)) {
                    return false;
                }
                bound[cell] = to + 1;
                trail[trailed++] = cell;
                return true;
            }
            return told.haveLikeNames(first % PARTS, other % PARTS) && pushTerms(first, other, true);
        }

        /** The TERMS of two places come on the rows, the first of them on top; below them that they are to be joined. */
        private boolean pushTerms(int first, int other, boolean joining) {
            int p = first % PARTS;
            int q = other % PARTS;
            int count = told.terms[p];
            if (top + count + 1 > HOLD) {
                return false;
            }
            if (joining && count > 0) {
                left[top] = -1 - first;
                right[top++] = other;
            }
            for (int k = count - 1; k >= 0; k--) {
                left[top] = first - p + told.term[p * TERMS + k];
                right[top++] = other - q + told.term[q * TERMS + k];
            }
            return true;
        }

        private int root(int place) {
            int at = place;
            for (int n = 0; n < JOINS && same[at] != 0; n++) {
                at = same[at] - 1;
            }
            return at;
        }

        private void join(int first, int other) {
            int from = root(first);
            int to = root(other);
            if (from != to && joins < JOINS) {
                same[from] = to + 1;
                joined[joins++] = from;
            }
        }

        /** Whether the VARIABLE of a cell is in what stands at a place; each other VARIABLE is gone into once. */
        private boolean has(int place, int cell) {
            searches++;
            int n = 1;
            hold[0] = place;
            for (int i = 0; i < MANY && n > 0; i++) {
                n--;
                int part = hold[n] % PARTS;
                int base = hold[n] - part;
                int variable = told.variable[part];
                if (n + TERMS > HOLD) {
                    return true;
                }
                if (variable == NONE) {
                    for (int k = 0; k < told.terms[part]; k++) {
                        hold[n++] = base + told.term[part * TERMS + k];
                    }
                } else {
                    int own = base / PARTS * VARIABLES + variable;
                    if (own == cell) {
                        return true;
                    }
                    if (bound[own] != 0 && seen[own] != searches) {
                        seen[own] = searches;
                        hold[n++] = bound[own] - 1;
                    }
                }
            }
            return n > 0;
        }

        /** How many parts, all that is bound put in; most and 1 if there are more. */
        private int parts(int place, int most) {
            int count = 0;
            int n = 1;
            hold[0] = place;
            for (int i = 0; i < MANY && n > 0; i++) {
                if (count + n > most || n + TERMS > HOLD) {
                    return most + 1;
                }
                n--;
                count++;
                int at = bare(hold[n]);
                int part = at % PARTS;
                for (int k = 0; k < told.terms[part]; k++) {
                    hold[n++] = at - part + told.term[part * TERMS + k];
                }
            }
            return count;
        }

        /** Whether two places are the same, all that is bound put in; one of them is of LARGE parts at most. */
        private boolean alike(int first, int other) {
            left[0] = first;
            right[0] = other;
            top = 1;
            for (int i = 0; i < MANY && top > 0; i++) {
                top--;
                int a = bare(left[top]);
                int b = bare(right[top]);
                if (a != b) {
                    if (isVariable(a) || isVariable(b) || !told.haveLikeNames(a % PARTS, b % PARTS)
                            || !pushTerms(a, b, false)) {
                        return false;
                    }
                }
            }
            return top == 0;
        }
    }

    /** What was SHOWN latest. */
    private static final class Writer {
        private static final int SPARE = 16;

        private final Told told;
        private final Bonds bonds;
        private final int[] bytes = new int[TAPE];
        private int length;
        private final int[] draft = new int[TAPE + SPARE];
        private int drafted;
        /** Places that are to be written, and signs as numbers below 0. */
        private final int[] hold = new int[HOLD];
        private int held;

        private Writer(Told told, Bonds bonds) {
            this.told = told;
            this.bonds = bonds;
        }

        private int write(int place, boolean minus, int most) {
            drafted = 0;
            if (minus) {
                put('-');
            }
            hold[0] = place;
            held = 1;
            for (int i = 0; i < MANY && held > 0 && drafted <= most; i++) {
                held--;
                if (hold[held] < 0) {
                    put(-hold[held]);
                } else {
                    putPart(bonds.bare(hold[held]));
                }
            }
            if (held > 0 || drafted > most || drafted > TAPE) {
                return NONE;
            }
            System.arraycopy(draft, 0, bytes, 0, drafted);
            length = drafted;
            return length;
        }

        private void put(int sign) {
            if (drafted < TAPE + SPARE) {
                draft[drafted++] = sign;
            }
        }

        private void push(int what) {
            if (held < HOLD) {
                hold[held++] = what;
            }
        }

        private void putPart(int place) {
            int part = place % PARTS;
            if (told.variable[part] != NONE) {
                put((int) told.name[part]);
                putInstance(place / PARTS);
                return;
            }
            putName(told.name[part]);
            int count = told.terms[part];
            if (count > 0) {
                put('(');
                push(-')');
            }
            for (int k = count - 1; k >= 0; k--) {
                push(place - part + told.term[part * TERMS + k]);
                if (k > 0) {
                    push(-',');
                }
            }
        }

        private void putInstance(int slot) {
            if (slot >= INSTANCES) {
                return;
            }
            if (slot >= 10) {
                put('0' + slot / 10);
            }
            put('0' + slot % 10);
        }

        private void putName(long letters) {
            for (int shift = 35; shift >= 0; shift -= 5) {
                int letter = (int) (letters >> shift & 31);
                if (letter != 0) {
                    put('a' + letter - 1);
                }
            }
        }
    }

    /** A LITERAL of an INSTANCE in a PATH or among LEMMAS, with those ahead of it. */
    private static final class Link {
        private int instance;
        private int literal;
        private int length;
        private Link before;
    }

    /** What is left of a row that is to be CLOSED. */
    private static final class Row {
        private int instance;
        /** The LITERAL that closed another one, NONE in the START. */
        private int without;
        /** The first LITERAL that is left. */
        private int next;
        private Link path;
        private Link lemmas;
        /** What is to be CLOSED behind it; null of the START. */
        private Row behind;
        /** The step whose EXTENSION made it; NONE of the START. */
        private int made;
    }

    /** A LITERAL that is closed, how, and where to go on if it is to be closed in another way. */
    private static final class Step {
        private Row row;
        private int kind;
        private int byInstance;
        private int byLiteral;
        /** The ways that were tried: the LEMMA, the PATH back to this link, so many places for LITERALS. */
        private boolean lemmaTried;
        private Link link;
        private int candidate;
        /** No other way is tried. */
        private boolean fixed;
        private int trailMark;
        private int instanceMark;
        private int rowMark;
        private int linkMark;
    }

    /** The search, and the steps and INSTANCES of THE PROOF that it found. */
    private static final class Prover {
        private final Told told;
        private final Bonds bonds;
        private final Row[] rows = new Row[ROWS];
        private int rowCount;
        private final Link[] links = new Link[LINKS];
        private int linkCount;
        private final Step[] steps = new Step[STEPS];
        private int stepCount;
        private final int[] clauseOf = new int[INSTANCES];
        private int instances;
        private int depth;
        private int options;
        private int tries;
        private int longest;
        private int cuts;
        private int extensions;
        private boolean givenUp;
        private boolean proved;

        private Prover(Told told, Bonds bonds) {
            this.told = told;
            this.bonds = bonds;
        }

        private void forgetCounts() {
            proved = false;
            tries = 0;
            longest = 0;
            cuts = 0;
            extensions = 0;
        }

        private int prove(int start, int itsDepth, int itsOptions) {
            depth = itsDepth;
            options = itsOptions;
            Row row = firstRow(start);
            for (int n = 0; n < MANY; n++) {
                row = pastClosed(row);
                if (row == null) {
                    proved = true;
                    return 1;
                }
                if (stands(row)) {
                    begin(row);
                }
                if (!findWay()) {
                    return givenUp ? GIVEN_UP : 0;
                }
                row = rowBehind(steps[stepCount - 1]);
            }
            return GIVEN_UP;
        }

        private Row firstRow(int start) {
            bonds.undo(0);
            proved = false;
            givenUp = false;
            rowCount = 0;
            linkCount = 0;
            stepCount = 0;
            clauseOf[0] = start;
            instances = 1;
            Row row = newRow(0, NONE, 0);
            row.path = null;
            row.lemmas = null;
            row.behind = null;
            row.made = NONE;
            return row;
        }

        private boolean has(int option) {
            return (options & option) != 0;
        }

        private int place(int instance, int literal) {
            return instance * PARTS + told.part(clauseOf[instance], literal);
        }

        private int literalsOf(int instance) {
            return told.literals[clauseOf[instance]];
        }

        /** The row, or the first one behind it that has a LITERAL left; null if all are closed. */
        private Row pastClosed(Row row) {
            Row at = row;
            for (int n = 0; n < ROWS && at != null; n++) {
                if (at.next < literalsOf(at.instance)) {
                    return at;
                }
                if (has(RESTRICTED) && at.made != NONE) {
                    for (int i = at.made; i < stepCount; i++) {
                        steps[i].fixed = true;
                    }
                }
                at = at.behind;
            }
            return at;
        }

        private boolean stands(Row row) {
            if (has(REGULAR) && repeats(row)) {
                cuts++;
                return false;
            }
            return bonds.parts(place(row.instance, row.next), SMALL) <= SMALL;
        }

        private boolean repeats(Row row) {
            for (int k = row.next; k < literalsOf(row.instance); k++) {
                if (k != row.without && bonds.parts(place(row.instance, k), SMALL) <= SMALL
                        && latestAlike(row.path, row.instance, k) != null) {
                    return true;
                }
            }
            return false;
        }

        private Link latestAlike(Link from, int instance, int literal) {
            boolean plus = told.isPlus(clauseOf[instance], literal);
            int own = place(instance, literal);
            for (Link at = from; at != null; at = at.before) {
                if (told.isPlus(clauseOf[at.instance], at.literal) == plus
                        && bonds.alike(own, place(at.instance, at.literal))) {
                    return at;
                }
            }
            return null;
        }

        private void begin(Row row) {
            if (stepCount >= STEPS) {
                return;
            }
            if (steps[stepCount] == null) {
                steps[stepCount] = new Step();
            }
            Step step = steps[stepCount++];
            step.row = row;
            step.lemmaTried = false;
            step.link = row.path;
            step.candidate = 0;
            step.fixed = false;
            step.trailMark = bonds.trailed;
            step.instanceMark = instances;
            step.rowMark = rowCount;
            step.linkMark = linkCount;
        }

        /** The latest step that has another way goes it; those behind it are gone. */
        private boolean findWay() {
            while (stepCount > 0) {
                Step step = steps[stepCount - 1];
                free(step);
                if (!step.fixed && (byLemma(step) || byReduction(step) || byExtension(step))) {
                    return true;
                }
                if (givenUp) {
                    return false;
                }
                stepCount--;
            }
            return false;
        }

        private void free(Step step) {
            bonds.undo(step.trailMark);
            instances = step.instanceMark;
            rowCount = step.rowMark;
            linkCount = step.linkMark;
        }

        private boolean mayTry() {
            if (tries >= TRIES) {
                givenUp = true;
                return false;
            }
            tries++;
            return true;
        }

        private boolean byLemma(Step step) {
            if (step.lemmaTried || !has(LEMMATA)) {
                return false;
            }
            step.lemmaTried = true;
            Row row = step.row;
            Link lemma = latestAlike(row.lemmas, row.instance, row.next);
            return lemma != null && closeBy(step, BY_LEMMA, lemma.instance, lemma.literal);
        }

        private boolean byReduction(Step step) {
            Row row = step.row;
            int own = place(row.instance, row.next);
            while (step.link != null) {
                Link link = step.link;
                step.link = link.before;
                int other = place(link.instance, link.literal);
                if (told.areOpposite(clauseOf[row.instance], row.next, clauseOf[link.instance], link.literal)
                        && bonds.parts(other, SMALL) <= SMALL) {
                    if (!mayTry()) {
                        return false;
                    }
                    if (bonds.unify(own, other)) {
                        return closeBy(step, BY_REDUCTION, link.instance, link.literal);
                    }
                    bonds.undo(step.trailMark);
                }
            }
            return false;
        }

        private boolean byExtension(Step step) {
            Row row = step.row;
            if (lengthOf(row.path) >= depth) {
                return false;
            }
            int own = place(row.instance, row.next);
            while (step.candidate < told.clauses * LITERALS) {
                int clause = step.candidate / LITERALS;
                int k = step.candidate % LITERALS;
                step.candidate++;
                if (told.isLiteral(clause, k) && told.areOpposite(clauseOf[row.instance], row.next, clause, k)) {
                    if (!mayTry()) {
                        return false;
                    }
                    if (instances < INSTANCES && bonds.unify(own, instances * PARTS + told.part(clause, k))) {
                        clauseOf[instances] = clause;
                        instances++;
                        extensions++;
                        return closeBy(step, BY_EXTENSION, instances - 1, k);
                    }
                    bonds.undo(step.trailMark);
                }
            }
            return false;
        }

        private boolean closeBy(Step step, int kind, int instance, int literal) {
            step.kind = kind;
            step.byInstance = instance;
            step.byLiteral = literal;
            // What an EXTENSION needs is still to be closed: pastClosed() sees to that.
            step.fixed = kind != BY_EXTENSION && has(RESTRICTED);
            return true;
        }

        /** What is to be CLOSED behind the way that the latest step goes. */
        private Row rowBehind(Step step) {
            Row rest = restOf(step.row);
            if (step.kind != BY_EXTENSION) {
                return rest;
            }
            Row row = newRow(step.byInstance, step.byLiteral, 0);
            row.path = newLink(step.row.instance, step.row.next, step.row.path);
            row.lemmas = step.row.lemmas;
            row.behind = rest;
            row.made = stepCount - 1;
            longest = Math.max(longest, row.path.length);
            return row;
        }

        private Row restOf(Row row) {
            Row rest = newRow(row.instance, row.without, row.next + 1);
            rest.path = row.path;
            rest.lemmas = has(LEMMATA) ? newLink(row.instance, row.next, row.lemmas) : row.lemmas;
            rest.behind = row.behind;
            rest.made = row.made;
            return rest;
        }

        private Row newRow(int instance, int without, int from) {
            int at = Math.min(rowCount, ROWS - 1);
            if (rows[at] == null) {
                rows[at] = new Row();
            }
            rowCount = at + 1;
            Row row = rows[at];
            row.instance = instance;
            row.without = without;
            row.next = from == without ? from + 1 : from;
            return row;
        }

        private Link newLink(int instance, int literal, Link before) {
            int at = Math.min(linkCount, LINKS - 1);
            if (links[at] == null) {
                links[at] = new Link();
            }
            linkCount = at + 1;
            Link link = links[at];
            link.instance = instance;
            link.literal = literal;
            link.before = before;
            link.length = lengthOf(before) + 1;
            return link;
        }

        private Step stepAt(int i) {
            return i >= 0 && i < stepCount ? steps[i] : null;
        }

        private int countSteps(int kind) {
            int count = 0;
            for (int i = 0; proved && i < stepCount; i++) {
                count += steps[i].kind == kind ? 1 : 0;
            }
            return count;
        }
    }

    /** THE MATRIX of THE PROOF and the ways through it. */
    private static final class Matrix {
        private static final int NEVER = -2;

        private final Told told;
        private final Bonds bonds;
        private final Prover prover;
        /** LITERALS that are ALIKE but for "-" have one number; NONE of one that is ALIKE none. */
        private final int[] kind = new int[INSTANCES * LITERALS];
        private boolean sorted;
        private final int[] order = new int[INSTANCES];
        private int height;
        /** The LITERALS of the way, in the order of INSTANCES. */
        private final int[] chosen = new int[INSTANCES];
        /** How many of a kind are on the way: without "-" and with it. */
        private final int[] plus = new int[INSTANCES * LITERALS];
        private final int[] minus = new int[INSTANCES * LITERALS];
        private int walked = NEVER;
        private int found;

        private Matrix(Told told, Bonds bonds, Prover prover) {
            this.told = told;
            this.bonds = bonds;
            this.prover = prover;
        }

        private void forget() {
            sorted = false;
            walked = NEVER;
        }

        /** 0 if there is an OPEN way without an INSTANCE (NONE: with all), 1 if there is none, UNTOLD. */
        private int walk(int without) {
            if (!sorted) {
                sortKinds();
            }
            if (walked != without) {
                lineUp(without);
                found = goThrough();
                walked = without;
            }
            return found;
        }

        private void sortKinds() {
            for (int i = 0; i < prover.instances; i++) {
                for (int k = 0; k < prover.literalsOf(i); k++) {
                    kind[i * LITERALS + k] = kindOf(i, k);
                }
            }
            sorted = true;
        }

        private int kindOf(int instance, int literal) {
            int own = prover.place(instance, literal);
            if (bonds.parts(own, LARGE) > LARGE) {
                return NONE;
            }
            int number = instance * LITERALS + literal;
            for (int n = 0; n < number; n++) {
                int i = n / LITERALS;
                int k = n % LITERALS;
                if (k < prover.literalsOf(i) && kind[n] == n && bonds.alike(own, prover.place(i, k))) {
                    return n;
                }
            }
            return number;
        }

        private void lineUp(int without) {
            height = 0;
            for (int i = 0; i < prover.instances; i++) {
                if (i != without) {
                    order[height++] = i;
                }
            }
            Arrays.fill(plus, 0);
            Arrays.fill(minus, 0);
        }

        private int goThrough() {
            int at = 0;
            int looks = 0;
            chosen[0] = NONE;
            for (int n = 0; n < MANY; n++) {
                if (at == height) {
                    return 0;
                }
                int k = chosen[at] + 1;
                if (k >= prover.literalsOf(order[at])) {
                    if (at == 0) {
                        return 1;
                    }
                    at--;
                    count(order[at], chosen[at], -1);
                } else {
                    if (looks == LOOKS) {
                        return UNTOLD;
                    }
                    looks++;
                    chosen[at] = k;
                    if (!isClosed(order[at], k)) {
                        count(order[at], k, 1);
                        at++;
                        if (at < height) {
                            chosen[at] = NONE;
                        }
                    }
                }
            }
            return UNTOLD;
        }

        private boolean isClosed(int instance, int literal) {
            int own = kind[instance * LITERALS + literal];
            if (own == NONE) {
                return false;
            }
            return (told.isPlus(prover.clauseOf[instance], literal) ? minus[own] : plus[own]) > 0;
        }

        private void count(int instance, int literal, int change) {
            int own = kind[instance * LITERALS + literal];
            if (own == NONE) {
                return;
            }
            if (told.isPlus(prover.clauseOf[instance], literal)) {
                plus[own] += change;
            } else {
                minus[own] += change;
            }
        }
    }

    /** What solve() was asked lately, the latest last. */
    private static final class Answers {
        private final int[] start = new int[ANSWERS];
        private final int[] depth = new int[ANSWERS];
        private final int[] options = new int[ANSWERS];
        private final int[] found = new int[ANSWERS];
        private int count;
        private int again;

        private void put(int itsStart, int itsDepth, int itsOptions, int itsFound) {
            for (int k = 0; k < count; k++) {
                if (start[k] == itsStart && depth[k] == itsDepth && options[k] == itsOptions) {
                    again++;
                    remove(k);
                }
            }
            if (count == ANSWERS) {
                remove(0);
            }
            start[count] = itsStart;
            depth[count] = itsDepth;
            options[count] = itsOptions;
            found[count] = itsFound;
            count++;
        }

        private void remove(int from) {
            for (int k = from; k + 1 < count; k++) {
                start[k] = start[k + 1];
                depth[k] = depth[k + 1];
                options[k] = options[k + 1];
                found[k] = found[k + 1];
            }
            count--;
        }
    }
}
