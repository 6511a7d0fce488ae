import java.util.function.Supplier;
import java.util.function.ToLongFunction;

/** All that an object answers, as a text: whether a call left everything as it was. */
final class Eye {
    private static final int NONE = OppositePairs.NONE;

    private Eye() {
    }

    /** What can be asked without a change. */
    static String seen(OppositePairs x) {
        StringBuilder all = new StringBuilder("SHOWN ").append(Check.out(x));
        all.append("\nfault ").append(x.fault(0)).append(' ').append(x.fault(1)).append("\ntried");
        for (int what = 0; what < 4; what++) {
            all.append(' ').append(x.tried(what));
        }
        all.append("\nlook");
        for (int what = 0; what < 9; what++) {
            all.append(' ').append(x.look(what));
        }
        all.append("\nanswers ").append(x.answer(NONE, 0));
        for (int k = 0; k < x.answer(NONE, 0); k++) {
            for (int what = 0; what < 4; what++) {
                all.append(what == 0 ? "; " : " ").append(x.answer(k, what));
            }
        }
        return all.append(clausesOf(x)).append(proofOf(x)).toString();
    }

    private static String clausesOf(OppositePairs x) {
        StringBuilder all = new StringBuilder("\npure ").append(x.pure());
        for (int c = 0; x.clause(c, 0) != NONE; c++) {
            all.append("\nclause");
            for (int what = 0; what < 4; what++) {
                all.append(' ').append(x.clause(c, what));
            }
            for (int k = 0; k < x.clause(c, 0); k++) {
                all.append(' ').append(x.clause(c, 10 + k)).append('m').append(x.partners(c, k));
            }
        }
        return all.toString();
    }

    private static String proofOf(OppositePairs x) {
        StringBuilder all = new StringBuilder("\nproof ").append(x.step(NONE, 0)).append(' ').append(x.closed(NONE));
        all.append(' ').append(x.needed());
        for (int i = 0; i < x.step(NONE, 0); i++) {
            for (int what = 0; what < 6; what++) {
                all.append(what == 0 ? "; " : " ").append(x.step(i, what));
            }
        }
        all.append("\ninstances ").append(x.instance(NONE));
        for (int i = 0; i < x.instance(NONE); i++) {
            all.append("; ").append(x.instance(i)).append(' ').append(x.closed(i)).append(' ').append(x.open(i, 0));
        }
        return all.toString();
    }

    /** What can be asked only so that something changes: what is SHOWN, and at last THE TAPE. */
    static String spent(OppositePairs x) {
        StringBuilder all = new StringBuilder(literalsOf(x));
        for (int i = 0; i < x.instance(NONE); i++) {
            for (int k = 0; k < x.clause(x.instance(i), 0); k++) {
                all.append("\nshown ").append(Check.shown(x, i, k));
            }
        }
        all.append("\nsolve ").append(x.solve(0, 3, 1)).append(' ').append(x.tried(0)).append(' ').append(x.look(8));
        all.append("\nclauses ").append(x.clauses()).append(' ').append(x.fault(0)).append(' ').append(x.fault(1));
        return all.append(literalsOf(x)).toString();
    }

    static String literalsOf(OppositePairs x) {
        StringBuilder all = new StringBuilder("\nliterals");
        for (int c = 0; x.clause(c, 0) != NONE; c++) {
            for (int k = 0; k < x.clause(c, 0); k++) {
                all.append(k == 0 ? "; " : " ").append(Check.show(x, c, k));
            }
        }
        return all.toString();
    }

    /** A call is answered as due, and all is as it is in another object that was not asked so. */
    static void refused(String call, Supplier<OppositePairs> made, ToLongFunction<OppositePairs> asked, long want) {
        OppositePairs one = made.get();
        OppositePairs other = made.get();
        Check.due(call, asked.applyAsLong(one), want);
        Check.due(call + " leaves what is seen", seen(one), seen(other));
        Check.due(call + " leaves the rest", spent(one), spent(other));
    }
}
