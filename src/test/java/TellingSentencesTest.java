import java.math.BigInteger;
import java.util.ArrayList;
import java.util.List;

/** Promises 29 to 34 and the terms they are read with: a test for each sentence that names a boundary or a refusal. */
public final class TellingSentencesTest extends Checks {
    public static void main(String[] args) throws IllegalAccessException {
        runAll(TellingSentencesTest.class, 29, 34);
    }

    static ValidPaths program() {
        return whole(TAINT);
    }

    static ValidPaths solved(ValidPaths x) {
        x.solve(ALL);
        due("it is solved", x.solved(), 1);
        return x;
    }

    /** Leads from MAIN's enter through all its nodes to its leave. */
    static ValidPaths inARow(ValidPaths x) {
        int last = 0;
        for (int n = 2; n < x.count(1); n++) {
            int kind = x.told(n, 1);
            if (x.told(n, 0) != 0 || kind == ENTER || kind == LEAVE || kind == RETURN) continue;
            x.edge(last, n);
            last = kind == CALL ? n + 1 : n;
        }
        x.edge(last, 1);
        return x;
    }

    static void reportsAre(String what, ValidPaths x, int[]... want) {
        due(what + ", reports()", x.reports(), want.length);
        for (int i = 0; i < want.length; i++) {
            due(what + ", report(" + i + ", 0)", x.report(i, 0), want[i][0]);
            due(what + ", report(" + i + ", 1)", x.report(i, 1), want[i][1]);
        }
        due(what + ", one more", x.report(want.length, 0), NONE);
    }

    static int[] of(int node, int variable) {
        return new int[] {node, variable};
    }

    // ---------------------------------------------------------------- promise 29: reports

    static void promise29_notSolvedIsState() {
        for (int c = TAINT; c <= OWN; c++) {
            int client = c;
            refused(UNSOLVED, "reports()", STATE, () -> whole(client), x -> x.reports());
        }
        refused(AS_MADE, "of no program", STATE, () -> new ValidPaths(), x -> x.reports());
    }

    static void promise29_ofTaintSinksWhoseVariableHolds() {
        ValidPaths x = with(1, 0);
        x.node(0, SINK, 5, 0, 0);
        x.node(0, SOURCE, 5, 0, 0);
        x.node(0, SINK, 5, 0, 0);
        x.node(0, SINK, 4, 0, 0);
        x.node(0, CLEAN, 5, 0, 0);
        x.node(0, SINK, 5, 0, 0);
        reportsAre("sinks", solved(inARow(x)), of(4, 5));
    }

    static void promise29_ofTheFirstVariableAndTheLast() {
        int[] variables = {1, 12};
        for (int v : variables) {
            ValidPaths x = with(8, 0);
            x.node(0, SOURCE, v, 0, 0);
            x.node(0, SINK, v, 0, 0);
            reportsAre("variable " + v, solved(inARow(x)), of(3, v));
        }
    }

    static void promise29_ofTheLastNode() {
        ValidPaths x = nodes(63);
        int sink = x.node(0, SINK, 1, 0, 0);
        x.edge(0, sink);
        x.client(UNSET);
        reportsAre("node 63", solved(x), of(63, 1));
        due("a node more", x.report(1, 0), NONE);
    }

    static void promise29_ofTaintOtherNodesAreNotReported() {
        ValidPaths x = with(2, 0, 1, 1);
        x.node(0, SOURCE, 5, 0, 0);
        x.node(0, COPY, 6, 5, 0);
        x.node(0, JOIN, 6, 5, 5);
        x.call(0, 1, NONE, 1);
        x.argument(7, 0, 5);
        reportsAre("no sinks", solved(inARow(x)));
        due("it holds there", x.holds(7), bits(0, 5, 6));
    }

    static void promise29_aSinkThatNoPathLeadsToIsNotReported() {
        ValidPaths x = with(1, 0);
        x.client(UNSET);
        x.node(0, SINK, 5, 0, 0);
        x.edge(0, 1);
        reportsAre("nothing leads there", solved(x));
    }

    /** Of UNSET: MAIN with locals 5, 6, 7 that nothing sets ahead of one node, 2. */
    static ValidPaths unset(int kind, int a, int b, int c) {
        ValidPaths x = with(3, 0);
        x.client(UNSET);
        x.node(0, kind, a, b, c);
        return solved(inARow(x));
    }

    static void promise29_ofUnsetACopyReadsY() {
        reportsAre("another", unset(COPY, 5, 6, 0), of(2, 6));
        reportsAre("itself", unset(COPY, 5, 5, 0), of(2, 5));
    }

    static void promise29_ofUnsetAJoinReadsYAndZ() {
        reportsAre("two", unset(JOIN, 5, 6, 7), of(2, 6), of(2, 7));
        reportsAre("by variables", unset(JOIN, 5, 7, 6), of(2, 6), of(2, 7));
        reportsAre("a global", unset(JOIN, 5, 7, 4), of(2, 4), of(2, 7));
    }

    static void promise29_ofUnsetOnceEach() {
        reportsAre("one twice", unset(JOIN, 5, 6, 6), of(2, 6));
        ValidPaths x = with(1, 0, 4, 4);
        x.client(UNSET);
        x.call(0, 1, NONE, 4);
        int[] arguments = {5, 1, 5, 1};
        for (int i = 0; i < 4; i++) x.argument(4, i, arguments[i]);
        reportsAre("arguments", solved(inARow(x)), of(4, 1), of(4, 5));
    }

    static void promise29_ofUnsetASinkReadsX() {
        reportsAre("a local", unset(SINK, 7, 0, 0), of(2, 7));
    }

    static void promise29_ofUnsetACallReadsItsArguments() {
        ValidPaths x = with(4, 0, 4, 4);
        x.client(UNSET);
        x.node(0, SET, 6, 0, 0);
        x.call(0, 1, 7, 4);
        for (int i = 0; i < 4; i++) x.argument(5, i, 8 - i);
        reportsAre("those that are not set", solved(inARow(x)), of(5, 5), of(5, 7), of(5, 8));
    }

    static void promise29_ofUnsetOtherKindsReadNone() {
        int[] kinds = {SKIP, SET, SOURCE, CLEAN};
        for (int kind : kinds) reportsAre("kind " + kind, unset(kind, 5, 6, 7));
        ValidPaths x = with(1, 0, 1, 0);
        x.client(UNSET);
        x.outcome(1, 5);
        x.edge(2, 3);
        x.call(0, 1, 5, 0);
        reportsAre("a call with no arguments, its return, the outcome", solved(inARow(x)));
    }

    static void promise29_ofUnsetWhatIsSetIsNotReported() {
        int[] kinds = {SET, SOURCE, CLEAN};
        for (int kind : kinds) {
            ValidPaths x = with(1, 0);
            x.client(UNSET);
            x.node(0, kind, 5, 0, 0);
            x.node(0, SINK, 5, 0, 0);
            reportsAre("behind kind " + kind, solved(inARow(x)));
        }
    }

    static void promise29_ofOwnNone() {
        ValidPaths x = with(3, 0, 1, 1);
        x.node(0, SINK, 5, 0, 0);
        x.node(0, COPY, 5, 6, 0);
        x.node(0, JOIN, 5, 6, 7);
        x.call(0, 1, NONE, 1);
        x.argument(7, 0, 5);
        x.client(OWN);
        x.begin(8191);
        reportsAre("all hold", solved(inARow(x)));
        due("all hold at the sink", x.holds(4), 8191);
    }

    // ---------------------------------------------------------------- promise 30: report

    static void promise30_byNodesThenVariables() {
        ValidPaths x = with(3, 0, 2, 2);
        x.client(UNSET);
        x.node(0, JOIN, 1, 7, 6);
        x.node(0, SINK, 7, 0, 0);
        x.node(1, SINK, 6, 0, 0);
        x.call(0, 1, NONE, 2);
        x.argument(7, 0, 7);
        x.argument(7, 1, 5);
        x.node(0, COPY, 1, 5, 0);
        x.edge(2, 6);
        reportsAre("all", solved(inARow(x)), of(4, 6), of(4, 7), of(5, 7), of(6, 6), of(7, 5), of(7, 7), of(9, 5));
    }

    static void promise30_noneSuchIsNone() {
        int[] none = {-1, 1, 2, NONE, MAX, MIN};
        for (int i : none) {
            for (int what = 0; what < 2; what++) {
                int w = what;
                leavesAll(SOLVED, "report(" + i + ", " + what + ")", NONE, () -> program(), x -> x.report(i, w));
            }
        }
        due("the only one", solved(program()).report(0, 1), 6);
        due("of none", solved(with(0, 0)).report(0, 0), NONE);
    }

    static void promise30_whatThereIsNotIsBad() {
        int[] none = {-1, 2, 3, NONE, MAX, MIN};
        for (int what : none) refused(ALWAYS, "report(0, " + what + ")", BAD, () -> program(), x -> x.report(0, what));
    }

    static void promise30_notSolvedIsState() {
        for (int what = 0; what < 2; what++) {
            int w = what;
            refused(UNSOLVED, "report(0, " + what + ")", STATE, () -> program(), x -> x.report(0, w));
        }
    }

    static void promise30_stateComesBeforeNone() {
        refused(UNSOLVED, "report(-1, 0)", STATE, () -> program(), x -> x.report(-1, 0));
        refused(UNSOLVED, "report(99, 1)", STATE, () -> program(), x -> x.report(99, 1));
    }

    static void promise30_badComesBeforeStateAndNone() {
        refused(UNSOLVED, "not solved", BAD, () -> program(), x -> x.report(0, 2));
        refused(SOLVED, "none such", BAD, () -> program(), x -> x.report(99, 2));
    }

    // ---------------------------------------------------------------- promise 31: count

    static void promise31_whatThereIsNotIsBad() {
        int[] none = {-1, 6, 7, NONE, MAX, MIN};
        for (int what : none) refused(ALWAYS, "count(" + what + ")", BAD, () -> program(), x -> x.count(what));
    }

    static void promise31_proceduresNodesEdgesCalls() {
        ValidPaths x = program();
        int[] want = {2, 10, 7, 1};
        for (int what = 0; what < want.length; what++) due("count(" + what + ")", x.count(what), want[what]);
        x.call(0, 0, NONE, 0);
        due("nodes with a return", x.count(1), 12);
        due("calls", x.count(3), 2);
        x.procedure(0, 0);
        due("procedures", x.count(0), 3);
        due("nodes of a procedure", x.count(1), 14);
        due("edges", x.count(2), 7);
    }

    static void promise31_fullOnes() {
        due("procedures", eightProcedures().count(0), 8);
        due("nodes", nodes(64).count(1), 64);
        due("edges", edges(120).count(2), 120);
        ValidPaths x = with(0, 0);
        for (int i = 0; i < 31; i++) x.call(0, 0, NONE, 0);
        due("calls", x.count(3), 31);
        due("no more", x.call(0, 0, NONE, 0), FULL);
        due("calls", x.count(3), 31);
    }

    static void promise31_turnsSinceTheSolvingBegan() {
        ValidPaths x = program();
        due("before", x.count(4), 0);
        x.solve(3);
        due("three", x.count(4), 3);
        x.solve(0);
        due("still", x.count(4), 3);
        int all = 3 + x.solve(ALL);
        due("all", x.count(4), all);
        x.solve(ALL);
        due("no more", x.count(4), all);
        x.client(TAINT);
        x.solve(2);
        due("since it began anew", x.count(4), 2);
    }

    static void promise31_noneAreGoneOfASolvingThatIsEnded() {
        ValidPaths x = solved(program());
        x.client(TAINT);
        due("turns", x.count(4), 0);
    }

    static void promise31_statesOfTheLatestTrack() {
        ValidPaths x = solved(program());
        due("none", x.count(5), 0);
        x.track(6, 6);
        due("seven", x.count(5), 7);
        x.track(0, 0);
        due("one", x.count(5), 1);
        x.track(0, 5);
        due("a refused one is none", x.count(5), 1);
        x.client(TAINT);
        due("behind a change", x.count(5), 1);
    }

    // ---------------------------------------------------------------- promise 32: finding

    static void promise32_noneBeforeAny() {
        ValidPaths x = new ValidPaths();
        due("new", x.finding(), 0);
        x.procedure(0, 0);
        due("behind a call that is not refused", x.finding(), 0);
    }

    /** A call that is found to be each of 1 .. 5; of kinds(), solved. */
    static long find(ValidPaths x, int finding) {
        switch (finding) {
            case NOTHING: return x.forget(SKIP, WITHIN);
            case BEYOND: return x.given(CALL, 0);
            case CAST: return x.given(SKIP, 0);
            case NOUGHT: return x.share(1);
            default: return x.call(0, 0, NONE, -1);
        }
    }

    static void promise32_theLatestOfFive() {
        ValidPaths x = solved(kinds());
        for (int first = NOTHING; first <= SIZE; first++) {
            for (int second = NOTHING; second <= SIZE; second++) {
                due("answer", find(x, first), FINDING);
                due("finding()", x.finding(), first);
                due("answer", find(x, second), FINDING);
                due("finding()", x.finding(), second);
            }
        }
    }

    static void promise32_whatIsNotAFindingLeavesIt() {
        ValidPaths x = kinds();
        x.given(SKIP, 0);
        due("BAD", x.given(-1, 0), BAD);
        due("finding()", x.finding(), CAST);
        due("STATE", x.holds(0), STATE);
        due("finding()", x.finding(), CAST);
        due("fine", x.node(0, SKIP, 0, 0, 0), 11);
        due("finding()", x.finding(), CAST);
        for (int i = 12; i < 64; i++) x.node(0, SKIP, 0, 0, 0);
        due("FULL", x.node(0, SKIP, 0, 0, 0), FULL);
        due("finding()", x.finding(), CAST);
        due("asked again", x.finding(), CAST);
    }

    // ---------------------------------------------------------------- promise 33: findings

    static void promise33_noFindingIsBad() {
        int[] none = {0, -1, 6, 7, NONE, MAX, MIN};
        for (int f : none) refused(ALWAYS, "findings(" + f + ")", BAD, () -> program(), x -> x.findings(f));
    }

    static void promise33_howOftenEachWasAnswered() {
        ValidPaths x = solved(kinds());
        for (int f = NOTHING; f <= SIZE; f++) {
            for (int i = 0; i < f; i++) find(x, f);
            for (int g = NOTHING; g <= SIZE; g++) due("findings(" + g + ")", x.findings(g), g <= f ? g : 0);
        }
    }

    static void promise33_asOftenAsCallsAllow() {
        ValidPaths x = kinds();
        for (int i = 0; i < 480; i++) x.given(SKIP, 0);
        due("findings(CAST)", x.findings(CAST), 480);
        due("findings(BEYOND)", x.findings(BEYOND), 0);
    }

    static void promise33_changesAndSolvingsLeaveThem() {
        ValidPaths x = solved(kinds());
        find(x, NOUGHT);
        x.client(OWN);
        x.procedure(0, 0);
        x.solve(ALL);
        due("findings(NOUGHT)", x.findings(NOUGHT), 1);
        due("finding()", x.finding(), NOUGHT);
    }

    // ---------------------------------------------------------------- promise 34: digest

    /** h of these, reckoned without a bound and cut to 64 bits in the end. */
    static long digestOf(List<Integer> values) {
        BigInteger h = BigInteger.valueOf(17);
        for (int v : values) h = h.multiply(BigInteger.valueOf(31)).add(BigInteger.valueOf(v));
        return h.longValue();
    }

    /** Of each node told() and its arguments, then these: edges, procedures, client; then holds() if asked for. */
    static long digestOf(ValidPaths x, boolean isSolved, int... rest) {
        List<Integer> values = new ArrayList<>();
        int nodes = x.count(1);
        for (int n = 0; n < nodes; n++) {
            for (int what = 0; what <= 9; what++) values.add(x.told(n, what));
            int room = x.told(n, 1) == CALL ? x.told(n, 8) : 0;
            for (int i = 0; i < room; i++) values.add(x.given(n, i));
        }
        for (int v : rest) values.add(v);
        for (int n = 0; n < nodes && isSolved; n++) values.add(x.holds(n));
        return digestOf(values);
    }

    static void promise34_ofANewObjectTheClientAlone() {
        for (int c = TAINT; c <= OWN; c++) {
            ValidPaths x = new ValidPaths();
            x.client(c);
            due("client " + c, x.digest(), 17 * 31 + c);
        }
    }

    static void promise34_nodesEdgesProceduresClientAndWhatHolds() {
        for (int c = TAINT; c <= OWN; c++) {
            int[] rest = {0, 4, 4, 5, 6, 7, 7, 9, 9, 1, 2, 8, 8, 3, 2, 0, NONE, 3, 2, 7, c};
            ValidPaths x = whole(c);
            due("not solved", x.digest(), digestOf(x, false, rest));
            x.solve(1);
            due("in part solved", x.digest(), digestOf(x, false, rest));
            x.solve(ALL);
            due("solved", x.digest(), digestOf(x, true, rest));
            x.client(c);
            due("ended", x.digest(), digestOf(x, false, rest));
        }
    }

    static void promise34_emptyArgumentsAreNone() {
        ValidPaths x = with(1, 0);
        x.call(0, 0, 5, 4);
        x.argument(2, 2, 5);
        due("three empty", x.digest(), digestOf(x, false, 1, 0, NONE, TAINT));
    }

    static void promise34_edgesByTheirNumbers() {
        ValidPaths x = with(0, 0);
        x.node(0, SKIP, 0, 0, 0);
        x.edge(2, 1);
        x.edge(0, 2);
        x.edge(2, 1);
        due("digest", x.digest(), digestOf(x, false, 2, 1, 0, 2, 0, 0, NONE, TAINT));
    }

    static void promise34_itWrapsAround() {
        ValidPaths x = nodes(64);
        int[] rest = new int[63 * 2 + 4];
        for (int i = 0; i < 63; i++) {
            rest[2 * i] = i == 0 ? 0 : i + 1;
            rest[2 * i + 1] = i == 62 ? 1 : i + 2;
        }
        rest[126] = 1;
        rest[128] = NONE;
        x.solve(ALL);
        List<Integer> values = new ArrayList<>();
        for (int n = 0; n < 64; n++) {
            int[] row = {0, n < 2 ? n : SKIP, NONE, NONE, NONE, NONE, NONE, NONE, NONE, NONE};
            for (int v : row) values.add(v);
        }
        for (int v : rest) values.add(v);
        for (int n = 0; n < 64; n++) values.add(1);
        due("64 nodes, solved", x.digest(), digestOf(values));
    }

    static void promise34_rowsTheBeginningTracksAndFindingsAreNotInIt() {
        ValidPaths x = program(), y = program();
        x.begin(0);
        x.forget(4, WITHIN);
        x.flow(0, WITHIN, 5, 0);
        x.given(0, 0);
        due("not solved", x.digest(), y.digest());
        x.solve(ALL);
        x.track(6, 6);
        y.solve(ALL);
        due("solved", x.digest(), y.digest());
    }

    static void promise34_itLeavesAll() {
        for (int stage = 0; stage <= 2; stage++) {
            ValidPaths x = program();
            if (stage > 0) x.solve(stage == 1 ? 2 : ALL);
            leavesAll(new int[] {stage}, "digest()", x.digest(), () -> program(), y -> y.digest());
        }
    }
}
