/** Promises 19 to 28 and the terms they are read with: a test for each sentence that names a boundary or a refusal. */
public final class SolvingSentencesTest extends Checks {
    public static void main(String[] args) throws IllegalAccessException {
        runAll(SolvingSentencesTest.class, 19, 28);
    }

    static final int[] NO_NODES = {-1, 10, 64, NONE, MAX, MIN};
    static final int[] NO_FACTS = {-1, 13, 14, NONE, MAX, MIN};

    static ValidPaths program() {
        return whole(TAINT);
    }

    static ValidPaths solved(ValidPaths x) {
        x.solve(ALL);
        due("it is solved", x.solved(), 1);
        return x;
    }

    /** MAIN with no locals, whose nodes 2 .. are SKIPs, of OWN: facts go as told by rows. */
    static ValidPaths own(int skips, int begin) {
        ValidPaths x = with(0, 0);
        for (int i = 0; i < skips; i++) x.node(0, SKIP, 0, 0, 0);
        x.client(OWN);
        x.begin(begin);
        return x;
    }

    static void lead(ValidPaths x, int... nodes) {
        for (int i = 0; i + 1 < nodes.length; i++) due("there may be an edge", Math.min(0, x.edge(nodes[i], nodes[i + 1])), 0);
    }

    /** Of a node's part these facts alone go anywhere: a fact, then its bits. */
    static void rows(ValidPaths x, int node, int part, int... rows) {
        for (int f = 1; f <= 12; f++) {
            int to = 0;
            for (int i = 0; i < rows.length; i += 2) to = rows[i] == f ? rows[i + 1] : to;
            x.flow(node, part, f, to);
        }
    }

    /** 64 nodes: MAIN (local 5) in a row from its enter by 2 .. 61 to its leave and to call 62 of itself; of UNSET. */
    static ValidPaths full() {
        ValidPaths x = nodes(62);
        due("the last two", x.call(0, 0, NONE, 0), 62);
        lead(x, 61, 62);
        lead(x, 63, 1);
        x.client(UNSET);
        return solved(x);
    }

    /** MAIN goes by calls 4 and 6, one behind the other; procedure 1 from its enter to its leave by so many nodes. */
    static ValidPaths oneBehindTheOther(int within, int begin) {
        ValidPaths x = with(0, 0, 0, 0);
        x.client(OWN);
        x.begin(begin);
        x.call(0, 1, NONE, 0);
        x.call(0, 1, NONE, 0);
        lead(x, 0, 4);
        lead(x, 5, 6);
        lead(x, 7, 1);
        int last = 2;
        for (int i = 0; i < within; i++) {
            int next = x.node(1, SKIP, 0, 0, 0);
            lead(x, last, next);
            last = next;
        }
        lead(x, last, 3);
        rows(x, 4, WITHIN);
        rows(x, 6, WITHIN);
        return x;
    }

    static final int[] FIRST_AND_LAST = {1, 12};

    // ---------------------------------------------------------------- promise 19: solve

    static void promise19_withNoProcedureIsState() {
        refused(AS_MADE, "solve(0)", STATE, () -> new ValidPaths(), x -> x.solve(0));
        refused(AS_MADE, "solve(20000)", STATE, () -> new ValidPaths(), x -> x.solve(ALL));
    }

    static void promise19_fewerThanNoneAndAboveTwentyThousandAreBad() {
        int[] none = {-1, NONE, 20001, 20002, MAX, MIN};
        for (int n : none) refused(ALWAYS, "solve(" + n + ")", BAD, () -> program(), x -> x.solve(n));
    }

    static void promise19_noneAndTwentyThousandAreFine() {
        ValidPaths x = program();
        due("solve(0)", x.solve(0), 0);
        int all = x.solve(20000);
        due("as many as path edges", all, x.edges(false));
        due("solve(20000) again", x.solve(20000), 0);
    }

    static void promise19_badComesBeforeState() {
        refused(AS_MADE, "no procedure", BAD, () -> new ValidPaths(), x -> x.solve(20001));
        Made empty = () -> {
            ValidPaths x = program();
            x.argument(5, 0, NONE);
            return x;
        };
        refused(AS_MADE, "an empty argument", BAD, empty, x -> x.solve(-1));
    }

    static void promise19_upToNTurns() {
        int all = program().solve(ALL);
        for (int n = 1; n <= all + 1; n++) {
            ValidPaths x = program();
            int left = all;
            for (int i = 0; i <= all / n + 1; i++) {
                due("solve(" + n + ") with " + left + " left", x.solve(n), Math.min(n, left));
                left -= Math.min(n, left);
                due("turns", x.count(4), all - left);
                due("solved()", x.solved(), left == 0 ? 1 : 0);
            }
        }
    }

    static void promise19_noneGoneLeavesAll() {
        leavesAll(new int[] {1, 2}, "solve(0)", 0, () -> program(), x -> x.solve(0));
        leavesAll(SOLVED, "solve(20000)", 0, () -> program(), x -> x.solve(ALL));
        leavesAll(SOLVED, "solve(1)", 0, () -> program(), x -> x.solve(1));
    }

    static void promise19_roomForAnotherNumberThanParametersIsState() {
        int[] rooms = {0, 1, 3, 4};
        for (int room : rooms) {
            Made made = () -> {
                ValidPaths x = with(1, 0, 3, 2);
                x.call(0, 1, NONE, room);
                for (int i = 0; i < room; i++) x.argument(4, i, 5);
                x.edge(0, 4);
                return x;
            };
            refused(AS_MADE, "room for " + room + " of 2", STATE, made, x -> x.solve(ALL));
            refused(AS_MADE, "room for " + room + " of 2", STATE, made, x -> x.solve(0));
        }
    }

    static void promise19_anEmptyArgumentIsState() {
        for (int i = 0; i < 4; i++) {
            int place = i;
            Made made = () -> {
                ValidPaths x = with(1, 0, 4, 4);
                x.call(0, 1, NONE, 4);
                for (int k = 0; k < 4; k++) if (k != place) x.argument(4, k, 5);
                x.edge(0, 4);
                return x;
            };
            refused(AS_MADE, "argument " + i, STATE, made, x -> x.solve(ALL));
            ValidPaths x = made.now();
            x.argument(4, i, 5);
            due("with it", Math.min(1, x.solve(ALL)), 1);
        }
    }

    static void promise19_eachCallCountsThoughNothingLeadsToIt() {
        ValidPaths x = program();
        due("it can be solved", Math.min(1, x.solve(ALL)), 1);
        int call = x.call(1, 1, NONE, 2);
        x.argument(call, 0, 5);
        due("one empty", x.solve(ALL), STATE);
        x.argument(call, 1, 6);
        due("none empty", Math.min(1, x.solve(ALL)), 1);
    }

    interface Named {
        void with(String what, Call change);
    }

    /** All that changes the program, the client, rows and the beginning; of whole(OWN). */
    static void changes(Named each) {
        each.with("procedure", x -> x.procedure(0, 0));
        each.with("outcome", x -> x.outcome(0, 5));
        each.with("node", x -> x.node(0, SKIP, 0, 0, 0));
        each.with("call", x -> x.call(0, 0, NONE, 0));
        each.with("argument", x -> x.argument(5, 0, 6));
        each.with("copy", x -> x.copy(5, 0, 5, 1, 1));
        each.with("edge", x -> x.edge(0, 1));
        each.with("client", x -> x.client(TAINT));
        each.with("flow", x -> x.flow(0, WITHIN, 3, 0));
        each.with("zero", x -> x.zero(0, WITHIN, 0));
        each.with("forget", x -> x.forget(4, WITHIN));
        each.with("begin", x -> x.begin(0));
    }

    /** All that says what is so already, but edge(). */
    static void sameAgain(Named each) {
        each.with("outcome", x -> x.outcome(1, 7));
        each.with("outcome of none", x -> x.outcome(0, NONE));
        each.with("argument", x -> x.argument(5, 0, 5));
        each.with("copy onto itself", x -> x.copy(5, 0, 5, 0, 2));
        each.with("copy of none", x -> x.copy(5, 0, 5, 0, 0));
        each.with("client", x -> x.client(OWN));
        each.with("flow", x -> x.flow(4, WITHIN, 5, bits(5, 6)));
        each.with("zero", x -> x.zero(4, WITHIN, bits(1)));
        each.with("begin", x -> x.begin(bits(5)));
    }

    static void ends(String what, Call change) {
        int all = whole(OWN).solve(ALL);
        int[] before = {1, all - 1, all};
        for (int turns : before) {
            String name = what + " behind " + turns + " turns";
            ValidPaths x = whole(OWN), twin = whole(OWN);
            x.solve(turns);
            long answer = change.on(x);
            due(name + " is not refused", answer >= STATE && answer <= BAD ? answer : 0, 0);
            change.on(twin);
            due(name + ", solved()", x.solved(), 0);
            due(name + ", holds", x.holds(0), STATE);
            due(name + ", length", x.length(0, 0), STATE);
            due(name + ", the next begins anew", x.solve(ALL), twin.solve(ALL));
            due(name + ", turns since", x.count(4), twin.count(4));
            due(name + ", digest", x.digest(), twin.digest());
            due(name + ", length of the leave", x.length(1, 0), twin.length(1, 0));
        }
    }

    static void promise19_whatChangesEndsASolving() {
        changes((what, change) -> ends(what, change));
    }

    static void promise19_alsoWhatSaysWhatIsSoAlready() {
        sameAgain((what, change) -> ends(what, change));
    }

    static void promise19_rowsAndTheBeginningEndItUnderAnyClient() {
        for (int c = TAINT; c <= UNSET; c++) {
            int client = c;
            Call[] calls = {x -> x.flow(0, WITHIN, 3, 0), x -> x.zero(0, WITHIN, 0), x -> x.forget(4, WITHIN), x -> x.begin(0)};
            for (Call call : calls) {
                ValidPaths x = solved(whole(client));
                int all = x.count(4);
                call.on(x);
                due("solved()", x.solved(), 0);
                due("all turns again", x.solve(ALL), all);
            }
        }
    }

    static void promise19_butNotAnEdgeThatIsThere() {
        leavesAll(ALWAYS, "edge(0, 4)", 0, () -> program(), x -> x.edge(0, 4));
        leavesAll(ALWAYS, "edge(8, 3)", 6, () -> program(), x -> x.edge(8, 3));
    }

    static void promise19_whatAsksEndsNone() {
        Call[] asks = {x -> x.ends(0, true), x -> x.told(5, 5), x -> x.given(5, 0), x -> x.is(5, 3), x -> x.goes(5, IN, 5), x -> x.solved(),
            x -> x.holds(4), x -> x.edges(false), x -> x.edges(true), x -> x.from(4, 0), x -> x.summary(5, 0), x -> x.share(5),
            x -> x.length(4, 0), x -> x.at(0, 0), x -> x.reports(), x -> x.report(0, 0), x -> x.count(4), x -> x.finding(),
            x -> x.findings(1), x -> x.digest()};
        for (int i = 0; i < asks.length; i++) {
            for (int stage = 0; stage <= 2; stage++) {
                ValidPaths x = program();
                if (stage == 1) x.solve(2);
                if (stage == 2) x.solve(ALL);
                if (stage == 2) x.track(1, 0);
                leavesAll(new int[] {stage}, "asking " + i, asks[i].on(x), () -> program(), asks[i]);
            }
        }
    }

    static void promise19_aTrackEndsNone() {
        ValidPaths x = solved(program());
        int turns = x.count(4);
        x.track(1, 6);
        due("solved()", x.solved(), 1);
        due("turns", x.count(4), turns);
        due("no more", x.solve(ALL), 0);
    }

    static void promise19_eachPathEdgeIsOneTurnThoughItIsFoundTwice() {
        ValidPaths x = with(0, 0);
        x.node(0, SKIP, 0, 0, 0);
        x.node(0, SKIP, 0, 0, 0);
        lead(x, 0, 2, 1);
        lead(x, 0, 3, 1);
        lead(x, 2, 3, 2, 2);
        due("four nodes with ZERO", x.solve(ALL), 4);
    }

    static void promise19_asManyTurnsAsTheLargestProgramNeeds() {
        ValidPaths x = with(8, 0);
        int last = 0;
        for (int i = 0; i < 31; i++) {
            int call = x.call(0, 0, NONE, 0);
            x.edge(last, call);
            last = call + 1;
        }
        x.edge(last, 1);
        x.client(OWN);
        for (int f = 1; f <= 12; f++) x.flow(0, WITHIN, f, 8191);
        x.zero(0, WITHIN, 8191);
        x.begin(8191);
        due("turns", x.solve(20000), 13 + 63 * 169);
        due("solved()", x.solved(), 1);
    }

    // ---------------------------------------------------------------- promise 20: solved

    static void promise20_notOfANewObject() {
        due("solved()", new ValidPaths().solved(), 0);
    }

    static void promise20_notBeforeTheFirstTurn() {
        ValidPaths x = program();
        due("before", x.solved(), 0);
        x.solve(0);
        due("behind solve(0)", x.solved(), 0);
    }

    static void promise20_whenAllPathEdgesWereGoneOnFrom() {
        int all = program().solve(ALL);
        ValidPaths x = program();
        x.solve(all - 1);
        due("one is left", x.solved(), 0);
        x.solve(1);
        due("none is left", x.solved(), 1);
        due("still", x.solved(), 1);
    }

    static void promise20_notBehindARefusedSolve() {
        ValidPaths x = solved(program());
        x.argument(5, 0, NONE);
        due("refused", x.solve(ALL), STATE);
        due("solved()", x.solved(), 0);
    }

    // ---------------------------------------------------------------- promise 21: holds

    static void promise21_noNodeIsBad() {
        for (int n : NO_NODES) refused(ALWAYS, "holds(" + n + ")", BAD, () -> program(), x -> x.holds(n));
    }

    static void promise21_notSolvedIsState() {
        for (int n = 0; n < 10; n++) {
            int node = n;
            refused(UNSOLVED, "holds(" + n + ")", STATE, () -> program(), x -> x.holds(node));
        }
    }

    static void promise21_ofEachNode() {
        ValidPaths x = solved(program());
        int[] want = {1, bits(0, 5, 6, 1), bits(0, 5), bits(0, 5, 7), 1, bits(0, 5), bits(0, 5, 6), bits(0, 5, 6), bits(0, 5), bits(0, 5, 6)};
        for (int n = 0; n < want.length; n++) due("holds(" + n + ")", x.holds(n), want[n]);
    }

    static void promise21_whereNoPathLeadsNoneHolds() {
        ValidPaths x = with(1, 0, 1, 0);
        x.node(0, SKIP, 0, 0, 0);
        x.edge(4, 1);
        solved(x);
        due("the enter", x.holds(0), 1);
        for (int n = 1; n <= 4; n++) due("holds(" + n + ")", x.holds(n), 0);
    }

    static void promise21_callsThatAreNotBackHoldToo() {
        ValidPaths x = with(0, 0, 0, 0);
        x.call(0, 1, NONE, 0);
        x.node(1, SOURCE, 1, 0, 0);
        x.node(1, SINK, 1, 0, 0);
        lead(x, 0, 4);
        lead(x, 2, 6, 7);
        lead(x, 5, 1);
        solved(x);
        due("inside", x.holds(7), bits(0, 1));
        due("its leave", x.holds(3), 0);
        due("ACROSS", x.holds(5), 1);
    }

    static void promise21_aCallComesBackWhereItWasCalled() {
        ValidPaths x = with(2, 0, 1, 1);
        x.outcome(1, 5);
        lead(x, 2, 3);
        int source = x.node(0, SOURCE, 5, 0, 0), a = x.call(0, 1, 6, 1), b = x.call(0, 1, 6, 1);
        x.argument(a, 0, 5);
        x.argument(b, 0, 6);
        lead(x, 0, source, a);
        lead(x, 0, b);
        solved(x);
        due("in the procedure", x.holds(3), bits(0, 5));
        due("where 5 was given", x.holds(a + 1), bits(0, 5, 6));
        due("where it was not", x.holds(b + 1), 1);
    }

    static void promise21_aCallOfItsOwnProcedureComesBackToo() {
        ValidPaths x = with(0, 0);
        int call = x.call(0, 0, NONE, 0), source = x.node(0, SOURCE, 1, 0, 0);
        lead(x, 0, source, 1);
        lead(x, 0, call);
        solved(x);
        due("the leave", x.holds(1), bits(0, 1));
        due("the return", x.holds(call + 1), bits(0, 1));
        due("the enter", x.holds(0), 1);
    }

    static void promise21_aCallThatNeverLeavesComesAcrossAlone() {
        ValidPaths x = with(1, 0, 0, 0);
        x.client(UNSET);
        int call = x.call(0, 1, NONE, 0);
        lead(x, 0, call);
        solved(x);
        due("the return", x.holds(call + 1), bits(0, 5));
    }

    static void promise21_aFactMayHoldByOwnRowsThatIsNoVariableThere() {
        ValidPaths x = own(0, bits(12));
        lead(x, 0, 1);
        solved(x);
        due("12 with no locals", x.holds(1), bits(0, 12));
    }

    static void promise21_theTermsOfTheNextSolvingAreAsked() {
        ValidPaths x = solved(program());
        x.node(0, SKIP, 0, 0, 0);
        x.edge(1 - 1, 10);
        solved(x);
        due("the new node", x.holds(10), 1);
        x.client(UNSET);
        solved(x);
        due("of UNSET", x.holds(10), bits(0, 1, 2, 3, 4, 5, 6));
    }

    static void promise21_ofTheLastNode() {
        ValidPaths x = full();
        for (int n = 0; n < 64; n++) due("holds(" + n + ")", x.holds(n), bits(0, 1, 2, 3, 4, 5));
        due("holds(64)", x.holds(64), BAD);
    }

    static void promise21_theFirstAndTheLastFactComeThroughCalls() {
        for (int f : FIRST_AND_LAST) {
            for (int within = 0; within <= 4; within += 4) {
                ValidPaths x = solved(oneBehindTheOther(within, bits(f)));
                int[] nodes = {2, 3, 5, 6, 7, 1};
                for (int n : nodes) due("holds(" + n + ")", x.holds(n), bits(0, f));
            }
        }
    }

    static void promise21_theRowsOfAnEnterAndAReturnAreGoneByAsTheyAreLeft() {
        ValidPaths x = oneBehindTheOther(0, bits(1));
        x.flow(0, WITHIN, 1, bits(2));
        x.flow(2, WITHIN, 2, bits(3));
        x.flow(5, WITHIN, 3, bits(4));
        solved(x);
        due("the enter itself", x.holds(0), bits(0, 1));
        due("behind the enter", x.holds(4), bits(0, 2));
        due("the leave", x.holds(3), bits(0, 3, 4));
        due("the return itself", x.holds(5), bits(0, 3));
        due("behind the return", x.holds(6), bits(0, 4));
    }

    static void promise21_theRowOfALeaveIsGoneByNowhere() {
        ValidPaths x = oneBehindTheOther(0, bits(1));
        x.flow(3, WITHIN, 1, bits(2));
        x.zero(3, WITHIN, bits(5));
        solved(x);
        for (int n = 0; n < 8; n++) due("holds(" + n + ")", x.holds(n), bits(0, 1));
    }

    static void promise21_partsOfACallAreGoneByEachForItself() {
        ValidPaths x = oneBehindTheOther(0, bits(1));
        x.flow(4, WITHIN, 1, bits(2));
        x.flow(4, IN, 1, bits(3));
        x.flow(4, BACK, 3, bits(4));
        rows(x, 6, IN);
        solved(x);
        due("the call", x.holds(4), bits(0, 1));
        due("within", x.holds(2), bits(0, 3));
        due("its return", x.holds(5), bits(0, 2, 4));
    }

    static void promise21_aLeaveGoesBackToNoCallThatWasNotGoneInBy() {
        ValidPaths x = with(0, 0, 0, 0, 0, 0);
        int ofMain = x.call(0, 0, NONE, 0), gone = x.call(0, 1, NONE, 0), elsewhere = x.call(2, 1, NONE, 0);
        lead(x, 0, gone);
        lead(x, gone + 1, 1);
        lead(x, 2, 3);
        solved(x);
        due("MAIN's leave", x.holds(1), 1);
        due("of MAIN, which nothing called", x.holds(ofMain + 1), 0);
        due("the leave", x.holds(3), 1);
        due("where it was called", x.holds(gone + 1), 1);
        due("of a procedure that nothing calls", x.holds(elsewhere + 1), 0);
    }

    static void promise21_callsWithinCallsComeBackWhereTheyWereCalled() {
        ValidPaths x = with(2, 0, 1, 1, 1, 1);
        x.outcome(1, 5);
        x.outcome(2, 5);
        int source = x.node(0, SOURCE, 5, 0, 0), a = x.call(0, 1, 6, 1), b = x.call(0, 1, 6, 1), inner = x.call(1, 2, 5, 1);
        x.argument(a, 0, 5);
        x.argument(b, 0, 6);
        x.argument(inner, 0, 5);
        lead(x, 0, source, a);
        lead(x, 0, b);
        lead(x, 2, inner);
        lead(x, inner + 1, 3);
        lead(x, 4, 5);
        solved(x);
        due("within both", x.holds(5), bits(0, 5));
        due("where 5 was given", x.holds(a + 1), bits(0, 5, 6));
        due("where it was not", x.holds(b + 1), 1);
    }

    /** MAIN (local 5, which is set) calls procedure 1 (locals 5, a parameter, and 6) by 5; of UNSET. */
    static ValidPaths unsetThroughACall(int outcome) {
        ValidPaths x = with(1, 0, 2, 1);
        x.client(UNSET);
        int set = x.node(0, SET, 5, 0, 0), call = x.call(0, 1, 5, 1);
        x.argument(call, 0, 5);
        x.outcome(1, outcome);
        lead(x, 0, set, call);
        lead(x, call + 1, 1);
        lead(x, 2, 3);
        return solved(x);
    }

    static void promise21_ofUnsetLocalsThatAreNoParametersHoldWhereAProcedureIsEntered() {
        due("the enter", unsetThroughACall(NONE).holds(2), bits(0, 1, 2, 3, 4, 6));
    }

    static void promise21_ofUnsetTheResultHoldsIfTheOutcomeDoesOrThereIsNone() {
        due("none", unsetThroughACall(NONE).holds(6), bits(0, 1, 2, 3, 4, 5));
        due("one that is not set", unsetThroughACall(6).holds(6), bits(0, 1, 2, 3, 4, 5));
        due("one that is set", unsetThroughACall(5).holds(6), bits(0, 1, 2, 3, 4));
    }

    static void promise21_aGlobalIsBehindACallWhatItIsInItsLeave() {
        ValidPaths x = with(0, 0, 0, 0);
        x.client(UNSET);
        int call = x.call(0, 1, NONE, 0), set = x.node(1, SET, 1, 0, 0);
        lead(x, 0, call);
        lead(x, call + 1, 1);
        lead(x, 2, set, 3);
        solved(x);
        due("the call", x.holds(call), bits(0, 1, 2, 3, 4));
        due("behind it", x.holds(1), bits(0, 2, 3, 4));
    }

    static void promise21_aGlobalThatIsTheResultIsTheOutcomeAlone() {
        ValidPaths x = with(1, 0, 1, 0);
        int source = x.node(0, SOURCE, 1, 0, 0), call = x.call(0, 1, 1, 0), clean = x.node(1, CLEAN, 5, 0, 0);
        x.outcome(1, 5);
        lead(x, 0, source, call);
        lead(x, call + 1, 1);
        lead(x, 2, clean, 3);
        solved(x);
        due("within", x.holds(3), bits(0, 1));
        due("behind it", x.holds(1), 1);
    }

    static void promise21_whatGoesRoundALoopHoldsInAllOfIt() {
        ValidPaths x = with(4, 0);
        int source = x.node(0, SOURCE, 5, 0, 0), last = x.node(0, COPY, 8, 7, 0), next = x.node(0, COPY, 7, 6, 0);
        int first = x.node(0, COPY, 6, 5, 0);
        lead(x, 0, source, last, next, first, last);
        lead(x, first, 1);
        solved(x);
        due("at the first of three rounds' nodes", x.holds(last), bits(0, 5, 6, 7, 8));
        due("the leave", x.holds(1), bits(0, 5, 6, 7, 8));
    }

    // ---------------------------------------------------------------- promise 22: edges

    static void promise22_notSolvedIsState() {
        refused(UNSOLVED, "edges(false)", STATE, () -> program(), x -> x.edges(false));
        refused(UNSOLVED, "edges(true)", STATE, () -> program(), x -> x.edges(true));
    }

    static void promise22_pathEdges() {
        ValidPaths x = solved(program());
        // MAIN by ZERO: 0: Z; 4: Z; 5: Z 5; 6, 7, 9: Z 5 6; 1: Z 5 6 1; the other by Z, 5: 2: Z, 5; 8: Z, 5; 3: Z, 5 7
        due("edges(false)", x.edges(false), 1 + 1 + 2 + 3 + 3 + 3 + 4 + 2 + 2 + 3);
        due("as many as turns", x.edges(false), x.count(4));
    }

    static void promise22_summaries() {
        // ZERO to ZERO, 5 to 6
        due("edges(true)", solved(program()).edges(true), 2);
        ValidPaths x = solved(whole(OWN));
        int sum = 0;
        for (int f = 0; f <= 12; f++) sum += Integer.bitCount(x.summary(5, f));
        due("of OWN", x.edges(true), sum);
    }

    static void promise22_noneOfAProgramOfAnEnterAlone() {
        ValidPaths x = solved(with(0, 0));
        due("path edges", x.edges(false), 1);
        due("summaries", x.edges(true), 0);
    }

    static void promise22_noSummariesOfACallThatNothingLeadsTo() {
        ValidPaths x = with(0, 0, 0, 0);
        x.call(0, 1, NONE, 0);
        lead(x, 2, 3);
        solved(x);
        due("summaries", x.edges(true), 0);
        due("path edges", x.edges(false), 1);
    }

    static void promise22_noSummariesOfAProcedureThatNeverLeaves() {
        ValidPaths x = with(0, 0, 0, 0);
        x.call(0, 1, NONE, 0);
        lead(x, 0, 4);
        solved(x);
        due("summaries", x.edges(true), 0);
        due("path edges", x.edges(false), 4);
    }

    static void promise22_eachSummaryOnceThoughTwoPathsLeadSo() {
        ValidPaths x = with(0, 0, 0, 0);
        x.client(OWN);
        x.begin(bits(1));
        x.call(0, 1, NONE, 0);
        lead(x, 0, 4);
        lead(x, 2, 3);
        rows(x, 4, IN, 1, bits(2, 3));
        rows(x, 4, BACK, 2, bits(4), 3, bits(4));
        solved(x);
        due("ZERO to ZERO, 1 to 4", x.edges(true), 2);
    }

    static void promise22_ofTheFirstAndTheLastFact() {
        for (int f : FIRST_AND_LAST) {
            ValidPaths x = solved(oneBehindTheOther(0, bits(f)));
            due("ZERO and " + f + " of both calls", x.edges(true), 4);
            due("both at eight nodes", x.edges(false), 16);
        }
    }

    static void promise22_ofTheLastNode() {
        ValidPaths x = full();
        due("each of six at each node", x.edges(false), 6 * 64);
        due("ZERO and the globals", x.edges(true), 5);
    }

    // ---------------------------------------------------------------- promise 23: from

    static void promise23_noNodeIsBad() {
        for (int n : NO_NODES) refused(ALWAYS, "from(" + n + ", 0)", BAD, () -> program(), x -> x.from(n, 0));
    }

    static void promise23_noFactIsBad() {
        for (int f : NO_FACTS) refused(ALWAYS, "from(4, " + f + ")", BAD, () -> program(), x -> x.from(4, f));
    }

    static void promise23_notSolvedIsState() {
        refused(UNSOLVED, "from(4, 0)", STATE, () -> program(), x -> x.from(4, 0));
        refused(UNSOLVED, "from(4, 12)", STATE, () -> program(), x -> x.from(4, 12));
    }

    static void promise23_byTheFactAtItsProceduresEnter() {
        ValidPaths x = solved(program());
        due("of the other by ZERO", x.from(3, 0), 1);
        due("of the other by 5", x.from(3, 5), bits(5, 7));
        due("of MAIN by ZERO", x.from(1, 0), bits(0, 1, 5, 6));
    }

    static void promise23_theEnterItself() {
        ValidPaths x = solved(program());
        due("by ZERO", x.from(2, 0), 1);
        due("by 5", x.from(2, 5), bits(5));
        due("by one that does not hold there", x.from(2, 6), 0);
    }

    static void promise23_byAFactThatDoesNotHoldThereNone() {
        ValidPaths x = solved(program());
        for (int n = 0; n < 10; n++) {
            for (int f = 8; f <= 12; f++) due("from(" + n + ", " + f + ")", x.from(n, f), 0);
        }
    }

    static void promise23_ofTheLastFact() {
        ValidPaths x = own(0, bits(12));
        lead(x, 0, 1);
        solved(x);
        due("from(1, 12)", x.from(1, 12), bits(12));
        due("from(1, 0)", x.from(1, 0), 1);
    }

    static void promise23_byEachOfTwoThatGoInToOne() {
        ValidPaths x = oneBehindTheOther(0, bits(1, 2));
        rows(x, 4, IN, 1, bits(3), 2, bits(3));
        rows(x, 4, BACK, 3, bits(4));
        solved(x);
        due("by 1", x.from(5, 1), bits(4));
        due("by 2", x.from(5, 2), bits(4));
        due("by ZERO", x.from(5, 0), 1);
    }

    static void promise23_byTheFirstAndTheLastThroughCalls() {
        for (int f : FIRST_AND_LAST) {
            for (int within = 0; within <= 4; within += 4) {
                ValidPaths x = solved(oneBehindTheOther(within, bits(f)));
                due("the first return", x.from(5, f), bits(f));
                due("the second return", x.from(7, f), bits(f));
                due("within", x.from(3, f), bits(f));
            }
        }
    }

    static void promise23_ofTheLastNode() {
        ValidPaths x = full();
        for (int f = 0; f <= 12; f++) due("from(63, " + f + ")", x.from(63, f), f <= 5 ? bits(f) : 0);
        due("from(64, 0)", x.from(64, 0), BAD);
    }

    static void promise23_aFactMayGoToZero() {
        ValidPaths x = own(0, bits(1));
        x.flow(0, WITHIN, 1, bits(0));
        lead(x, 0, 1);
        solved(x);
        due("by 1", x.from(1, 1), 1);
        due("by ZERO", x.from(1, 0), 1);
        due("a path edge each", x.edges(false), 4);
    }

    // ---------------------------------------------------------------- promise 24: summary

    static void promise24_noNodeIsBad() {
        for (int n : NO_NODES) refused(ALWAYS, "summary(" + n + ", 0)", BAD, () -> program(), x -> x.summary(n, 0));
    }

    static void promise24_noFactIsBad() {
        for (int f : NO_FACTS) refused(ALWAYS, "summary(5, " + f + ")", BAD, () -> program(), x -> x.summary(5, f));
    }

    static void promise24_ofNoCallIsCast() {
        for (int n = 0; n <= 10; n++) {
            int node = n;
            if (n != CALL) found(ALWAYS, "of kind " + n, CAST, () -> kinds(), x -> x.summary(node, 0));
        }
    }

    static void promise24_notSolvedIsState() {
        refused(UNSOLVED, "summary(5, 0)", STATE, () -> program(), x -> x.summary(5, 0));
        refused(UNSOLVED, "summary(5, 12)", STATE, () -> program(), x -> x.summary(5, 12));
    }

    static void promise24_badComesBeforeCastAndState() {
        refused(ALWAYS, "no fact, no call", BAD, () -> program(), x -> x.summary(6, 13));
        refused(UNSOLVED, "no fact, not solved", BAD, () -> program(), x -> x.summary(5, -1));
    }

    static void promise24_castComesBeforeState() {
        found(UNSOLVED, "both", CAST, () -> program(), x -> x.summary(6, 0));
    }

    static void promise24_whatComesBackAlone() {
        ValidPaths x = solved(program());
        due("ZERO", x.summary(5, 0), 1);
        due("5, which goes ACROSS besides", x.summary(5, 5), bits(6));
    }

    static void promise24_ofAFactThatDoesNotHoldAtTheCallNone() {
        ValidPaths x = solved(program());
        for (int f = 1; f <= 12; f++) if (f != 5) due("summary(5, " + f + ")", x.summary(5, f), 0);
        // 1 goes in to what another fact brings through, but is not at the call
        x = with(0, 0, 0, 0);
        x.client(OWN);
        x.begin(bits(1));
        x.call(0, 1, NONE, 0);
        lead(x, 0, 4);
        lead(x, 2, 3);
        rows(x, 4, IN, 1, bits(3), 2, bits(3));
        solved(x);
        due("1", x.summary(4, 1), bits(3));
        due("2", x.summary(4, 2), 0);
    }

    static void promise24_ofSeveralFactsWithin() {
        ValidPaths x = with(0, 0, 0, 0);
        x.client(OWN);
        x.begin(bits(12));
        x.call(0, 1, NONE, 0);
        lead(x, 0, 4);
        lead(x, 2, 3);
        rows(x, 4, IN, 12, bits(1, 2));
        rows(x, 2, WITHIN, 1, bits(3, 4), 2, bits(5));
        rows(x, 4, BACK, 3, bits(6), 4, bits(0, 12), 5, 0);
        solved(x);
        due("12", x.summary(4, 12), bits(0, 6, 12));
    }

    static void promise24_ofTheFirstAndTheLastFact() {
        for (int f : FIRST_AND_LAST) {
            ValidPaths x = oneBehindTheOther(0, bits(f));
            rows(x, 6, IN, f, bits(13 - f));
            rows(x, 6, BACK, 13 - f, bits(0, 6));
            solved(x);
            due("the first call", x.summary(4, f), bits(f));
            due("the second call", x.summary(6, f), bits(0, 6));
        }
    }

    // ---------------------------------------------------------------- promise 25: share

    /** One at the enter and the leave, two at the enter alone. */
    static ValidPaths shared() {
        ValidPaths x = own(0, bits(1, 2));
        lead(x, 0, 1);
        x.flow(0, WITHIN, 2, 0);
        return x;
    }

    static void promise25_aThousandTimesThoseByAllCut() {
        ValidPaths x = solved(shared());
        due("two of three", x.share(1), 666);
        due("one of three", x.share(2), 333);
        due("none of three", x.share(3), 0);
    }

    static void promise25_allOfThem() {
        ValidPaths x = own(0, bits(12));
        solved(x);
        due("share(12)", x.share(12), 1000);
        due("share(1)", x.share(1), 0);
    }

    static void promise25_zeroCountsNot() {
        ValidPaths x = own(6, bits(1));
        lead(x, 0, 2, 3, 4, 5, 6, 7);
        x.flow(0, WITHIN, 1, 0);
        solved(x);
        due("share(1)", x.share(1), 1000);
    }

    static void promise25_ofTheLastNode() {
        ValidPaths x = full();
        for (int f = 1; f <= 12; f++) due("share(" + f + ")", x.share(f), f <= 5 ? 200 : 0);
    }

    static void promise25_zeroAndNoFactAreBad() {
        int[] none = {0, -1, 13, 14, NONE, MAX, MIN};
        for (int f : none) refused(ALWAYS, "share(" + f + ")", BAD, () -> shared(), x -> x.share(f));
    }

    static void promise25_notSolvedIsState() {
        for (int f = 1; f <= 12; f++) {
            int fact = f;
            refused(UNSOLVED, "share(" + f + ")", STATE, () -> program(), x -> x.share(fact));
        }
    }

    static void promise25_sharedAmongNoneIsNought() {
        found(SOLVED, "share(1)", NOUGHT, () -> with(0, 0), x -> x.share(1));
        found(SOLVED, "share(12)", NOUGHT, () -> with(0, 0), x -> x.share(12));
    }

    static void promise25_stateComesBeforeNought() {
        refused(AS_MADE, "share(1)", STATE, () -> with(0, 0), x -> x.share(1));
    }

    static void promise25_badComesBeforeNought() {
        refused(SOLVED, "share(0)", BAD, () -> with(0, 0), x -> x.share(0));
        refused(SOLVED, "share(13)", BAD, () -> with(0, 0), x -> x.share(13));
    }

    // ---------------------------------------------------------------- promise 26: length

    static void promise26_noNodeIsBad() {
        for (int n : NO_NODES) refused(ALWAYS, "length(" + n + ", 0)", BAD, () -> program(), x -> x.length(n, 0));
    }

    static void promise26_noFactIsBad() {
        for (int f : NO_FACTS) refused(ALWAYS, "length(4, " + f + ")", BAD, () -> program(), x -> x.length(4, f));
    }

    static void promise26_notSolvedIsState() {
        refused(UNSOLVED, "length(0, 0)", STATE, () -> program(), x -> x.length(0, 0));
        refused(UNSOLVED, "length(0, 12)", STATE, () -> program(), x -> x.length(0, 12));
    }

    static void promise26_whatDoesNotHoldHasNone() {
        ValidPaths x = solved(program());
        for (int n = 0; n < 10; n++) {
            for (int f = 0; f <= 12; f++) {
                if ((x.holds(n) >> f & 1) == 0) due("length(" + n + ", " + f + ")", x.length(n, f), NONE);
            }
        }
    }

    static void promise26_ofTheBeginningIsNought() {
        ValidPaths x = own(0, 8191);
        lead(x, 0, 1);
        solved(x);
        for (int f = 0; f <= 12; f++) {
            due("length(0, " + f + ")", x.length(0, f), 0);
            due("length(1, " + f + ")", x.length(1, f), 1);
        }
    }

    static void promise26_eachStepCountsOne() {
        ValidPaths x = solved(program());
        long[][] want = {{4, 0, 1}, {5, 5, 2}, {2, 5, 3}, {8, 5, 4}, {3, 7, 5}, {6, 6, 6}, {6, 5, 3}, {6, 0, 3}, {7, 6, 7}, {9, 6, 8}, {1, 1, 9}, {1, 0, 6}};
        for (long[] w : want) due("length(" + w[0] + ", " + w[1] + ")", x.length((int) w[0], (int) w[1]), w[2]);
    }

    static void promise26_theShortestOfSeveral() {
        ValidPaths x = own(3, bits(1));
        lead(x, 0, 2, 3, 4, 1);
        lead(x, 2, 1);
        solved(x);
        due("past two of them", x.length(1, 1), 2);
    }

    static void promise26_aCallThatIsNotBackCounts() {
        ValidPaths x = with(0, 0, 0, 0, 0, 0);
        int a = x.call(0, 1, NONE, 0), b = x.call(1, 2, NONE, 0);
        lead(x, 0, a);
        lead(x, 2, b);
        solved(x);
        due("the enter of the first", x.length(2, 0), 2);
        due("the enter of the second", x.length(4, 0), 4);
    }

    static void promise26_theShortestOfAllCallsOfAProcedure() {
        ValidPaths x = with(0, 0, 0, 0);
        int far = x.call(0, 1, NONE, 0), near = x.call(0, 1, NONE, 0), skip = x.node(0, SKIP, 0, 0, 0);
        lead(x, 0, skip, far);
        lead(x, 0, near);
        solved(x);
        due("the enter", x.length(2, 0), 2);
    }

    static void promise26_backIsWhereItWasCalledThoughAnotherCallIsNearer() {
        ValidPaths x = with(0, 0, 0, 0);
        x.client(OWN);
        x.begin(bits(1));
        int near = x.call(0, 1, NONE, 0), far = x.call(0, 1, NONE, 0), skip = x.node(0, SKIP, 0, 0, 0);
        lead(x, 0, near);
        lead(x, 0, skip, far);
        lead(x, 2, 3);
        rows(x, near, WITHIN);
        rows(x, far, WITHIN);
        solved(x);
        due("of the near", x.length(near + 1, 1), 4);
        due("of the far", x.length(far + 1, 1), 5);
    }

    /**
     * MAIN calls procedure 1 by 4 and goes on from 5 by 6, 7, 8, 9. The procedure with fact f at its enter goes ten
     * times into itself with the fact above, 12 alone goes past: 10 n + 36 steps, and 6 of 12: so 10^12 - 4 of 1.
     */
    static ValidPaths far() {
        ValidPaths x = with(0, 0, 0, 0);
        x.call(0, 1, NONE, 0);
        for (int i = 6; i < 15; i++) x.node(i < 10 ? 0 : 1, SKIP, 0, 0, 0);
        for (int i = 0; i < 10; i++) x.call(1, 1, NONE, 0);
        for (int i = 35; i < 40; i++) x.node(1, SKIP, 0, 0, 0);
        lead(x, 0, 4);
        lead(x, 5, 6, 7, 8, 9);
        lead(x, 2, 10, 11, 12, 13, 14, 15);
        for (int call = 15; call < 33; call += 2) lead(x, call + 1, call + 2);
        lead(x, 34, 3);
        lead(x, 2, 35, 36, 37, 38, 39, 3);
        for (int f = 1; f <= 11; f++) {
            x.flow(10, WITHIN, f, bits(f + 1));
            x.flow(34, WITHIN, f + 1, bits(f));
            x.flow(35, WITHIN, f, 0);
            for (int call = 15; call < 35; call += 2) x.flow(call, WITHIN, f + 1, 0);
        }
        x.flow(10, WITHIN, 12, 0);
        x.flow(4, WITHIN, 1, 0);
        x.client(OWN);
        x.begin(bits(1));
        return solved(x);
    }

    static void promise26_theNearestEnterGoesOnFirst() {
        // procedure a is near and calls b; b is called from MAIN too, but far off; b calls c
        int[][] orders = {{1, 2, 3}, {2, 1, 3}, {3, 2, 1}, {1, 3, 2}, {2, 3, 1}, {3, 1, 2}};
        for (int[] p : orders) {
            ValidPaths x = with(0, 0, 0, 0, 0, 0, 0, 0);
            int near = x.call(0, p[0], NONE, 0), far = x.call(0, p[1], NONE, 0), on = x.call(p[0], p[1], NONE, 0), last = x.call(p[1], p[2], NONE, 0);
            int s = x.node(0, SKIP, 0, 0, 0), t = x.node(0, SKIP, 0, 0, 0), u = x.node(0, SKIP, 0, 0, 0), v = x.node(0, SKIP, 0, 0, 0);
            lead(x, 0, near);
            lead(x, 0, s, t, u, v, far);
            lead(x, x.ends(p[0], false), on);
            lead(x, x.ends(p[1], false), last);
            solved(x);
            due("a", x.length(x.ends(p[0], false), 0), 2);
            due("b", x.length(x.ends(p[1], false), 0), 4);
            due("c", x.length(x.ends(p[2], false), 0), 6);
        }
    }

    static void promise26_theFirstAndTheLastFactThroughCalls() {
        for (int f : FIRST_AND_LAST) {
            for (int within = 0; within <= 4; within += 4) {
                ValidPaths x = solved(oneBehindTheOther(within, bits(f)));
                due("the first return", x.length(5, f), 4 + within);
                due("the second return", x.length(7, f), 8 + 2 * within);
                due("within", x.length(3, f), 3 + within);
            }
        }
    }

    static void promise26_byZeroThroughCalls() {
        for (int within = 0; within <= 4; within += 4) {
            ValidPaths x = oneBehindTheOther(within, 0);
            x.zero(4, BACK, bits(7));
            x.zero(6, BACK, bits(8));
            solved(x);
            due("the first return", x.length(5, 7), 4 + within);
            due("the second return, the first ACROSS", x.length(7, 8), 6 + within);
        }
    }

    static void promise26_byOtherFactsWithinASecondCall() {
        for (int within = 0; within <= 4; within += 4) {
            ValidPaths x = oneBehindTheOther(within, bits(1));
            rows(x, 6, IN, 1, bits(2));
            rows(x, 6, BACK, 2, bits(7));
            solved(x);
            due("the second return", x.length(7, 7), 8 + 2 * within);
            due("within", x.length(3, 2), 7 + 2 * within);
        }
    }

    static void promise26_ofTheLastFactThatEntersMainByACall() {
        ValidPaths x = own(0, bits(1));
        int call = x.call(0, 0, NONE, 0);
        lead(x, 0, call);
        rows(x, call, IN, 1, bits(12));
        solved(x);
        due("length(0, 12)", x.length(0, 12), 2);
        due("length(0, 1)", x.length(0, 1), 0);
    }

    static void promise26_ofTheLastNode() {
        ValidPaths x = full();
        due("ACROSS", x.length(63, 0), 62);
        due("BACK", x.length(63, 1), 124);
        due("a fact that does not hold", x.length(63, 12), NONE);
        due("no node", x.length(64, 0), BAD);
    }

    static void promise26_itIsOfTheLatestSolvingOfCalls() {
        ValidPaths x = oneBehindTheOther(0, bits(1));
        solved(x);
        due("both calls", x.length(7, 1), 8);
        due("within", x.length(3, 1), 3);
        x.flow(4, WITHIN, 1, bits(1));
        solved(x);
        due("one ACROSS", x.length(7, 1), 6);
        due("still within", x.length(3, 1), 3);
        x.flow(4, WITHIN, 1, 0);
        x.flow(0, WITHIN, 1, 0);
        x.zero(6, IN, bits(1));
        solved(x);
        due("by ZERO", x.length(7, 1), 6);
        due("within by the second call", x.length(3, 1), 5);
    }

    static void promise26_itIsOfTheLatestSolving() {
        ValidPaths x = own(2, bits(1));
        lead(x, 0, 2, 3, 1);
        solved(x);
        due("through all", x.length(1, 1), 3);
        lead(x, 2, 1);
        solved(x);
        due("past one", x.length(1, 1), 2);
        x.flow(2, WITHIN, 1, bits(2));
        solved(x);
        due("not any more", x.length(1, 1), NONE);
        due("but 2", x.length(1, 2), 2);
        x.flow(0, WITHIN, 1, bits(1, 2));
        x.node(0, SKIP, 0, 0, 0);
        lead(x, 0, 4);
        solved(x);
        due("the new node", x.length(4, 2), 1);
    }

    static final long LONGEST = 1000000000000L;

    static void promise26_upToAThousandThousandThousandThousandItIsTold() {
        ValidPaths x = far();
        due("fact 12 at its leave", x.length(3, 12), 2 + 11 * 7 + 6);
        due("fact 2 at its leave", x.length(3, 2), LONGEST / 10 - 4 + 9);
        due("fact 1 at its leave", x.length(3, 1), LONGEST - 2);
        due("one less", x.length(5, 1), LONGEST - 1);
        due("that", x.length(6, 1), LONGEST);
    }

    static void promise26_aboveThatItIsToldAsThat() {
        ValidPaths x = far();
        for (int n = 7; n <= 9; n++) due("length(" + n + ", 1)", x.length(n, 1), LONGEST);
    }

    // ---------------------------------------------------------------- promise 27: track

    static void promise27_noNodeIsBad() {
        for (int n : NO_NODES) refused(ALWAYS, "track(" + n + ", 0)", BAD, () -> program(), x -> x.track(n, 0));
    }

    static void promise27_noFactIsBad() {
        for (int f : NO_FACTS) refused(ALWAYS, "track(4, " + f + ")", BAD, () -> program(), x -> x.track(4, f));
    }

    static void promise27_notSolvedIsState() {
        refused(UNSOLVED, "track(0, 0)", STATE, () -> program(), x -> x.track(0, 0));
    }

    static void promise27_whatDoesNotHoldIsState() {
        refused(SOLVED, "track(4, 5)", STATE, () -> program(), x -> x.track(4, 5));
        refused(SOLVED, "track(4, 12)", STATE, () -> program(), x -> x.track(4, 12));
    }

    /** A ring of 30 nodes 2 .. 31; each time round fact f goes to the next above. */
    static ValidPaths ring() {
        ValidPaths x = own(30, bits(1));
        lead(x, 0, 2);
        for (int i = 2; i < 32; i++) lead(x, i, i == 31 ? 2 : i + 1);
        for (int f = 1; f <= 12; f++) x.flow(31, WITHIN, f, f == 12 ? 0 : bits(f + 1));
        lead(x, 2, 1);
        return x;
    }

    static void promise27_threeHundredStatesAreLaid() {
        ValidPaths x = solved(ring());
        due("track(30, 10)", x.track(30, 10), 300);
        due("states", x.count(5), 300);
        for (int i = 1; i < 300; i++) {
            due("node " + i, x.at(i, 0), 2 + (i - 1) % 30);
            due("fact " + i, x.at(i, 1), 1 + (i - 1) / 30);
        }
        due("behind the last", x.at(300, 0), BAD);
    }

    static void promise27_aboveThatIsFull() {
        refused(SOLVED, "301 states", FULL, () -> ring(), x -> x.track(31, 10));
        refused(SOLVED, "302 states", FULL, () -> ring(), x -> x.track(2, 11));
        ValidPaths x = far();
        due("a long one", x.track(3, 2), FULL);
        due("the longest", x.track(9, 1), FULL);
    }

    static void promise27_itIsOfTheLatestSolving() {
        ValidPaths x = own(1, bits(1));
        lead(x, 0, 2, 1);
        solved(x);
        tracks(x, 1, 1, state(0, 1, 0, 0), state(2, 1, 1, 0), state(1, 1, 1, 0));
        lead(x, 0, 1);
        solved(x);
        tracks(x, 1, 1, state(0, 1, 0, 0), state(1, 1, 1, 0));
    }

    static void promise27_badComesBeforeFull() {
        refused(SOLVED, "no fact", BAD, () -> ring(), x -> x.track(31, 13));
    }

    static void promise27_lengthAndOneMore() {
        for (int c = TAINT; c <= OWN; c++) {
            ValidPaths x = solved(whole(c));
            for (int n = 0; n < 10; n++) {
                for (int f = 0; f <= 12; f++) {
                    if ((x.holds(n) >> f & 1) == 1) due("track(" + n + ", " + f + ")", x.track(n, f), x.length(n, f) + 1);
                }
            }
        }
    }

    static void promise27_ofTheBeginningItselfAlone() {
        ValidPaths x = own(0, bits(3));
        solved(x);
        tracks(x, 0, 3, state(0, 3, 0, 0));
        tracks(x, 0, 0, state(0, 0, 0, 0));
    }

    static void promise27_ofMainsEnterItselfAloneThoughItIsCalled() {
        ValidPaths x = with(0, 0);
        int call = x.call(0, 0, NONE, 0);
        lead(x, 0, call);
        solved(x);
        tracks(x, 0, 0, state(0, 0, 0, 0));
    }

    static void promise27_ofMainsEnterWithAFactThatIsNotAtTheBeginning() {
        ValidPaths x = own(0, bits(1));
        int call = x.call(0, 0, NONE, 0);
        lead(x, 0, call);
        rows(x, call, IN, 1, bits(2));
        solved(x);
        tracks(x, 0, 2, state(0, 1, 0, 0), state(call, 1, 1, 0), state(0, 2, 3, 1));
    }

    static void promise27_theLeastFactAtTheEnter() {
        ValidPaths x = own(1, bits(3, 4));
        lead(x, 0, 2);
        rows(x, 0, WITHIN, 3, bits(5), 4, bits(5));
        solved(x);
        tracks(x, 2, 5, state(0, 3, 0, 0), state(2, 5, 1, 0));
    }

    static void promise27_theLeastFactAtTheEnterComesBeforeTheLeastNode() {
        ValidPaths x = own(2, bits(3, 4));
        lead(x, 0, 2, 1);
        lead(x, 0, 3, 1);
        rows(x, 0, WITHIN, 3, bits(7), 4, bits(6));
        rows(x, 2, WITHIN, 6, bits(9));
        rows(x, 3, WITHIN, 7, bits(9));
        solved(x);
        tracks(x, 1, 9, state(0, 3, 0, 0), state(3, 7, 1, 0), state(1, 9, 1, 0));
    }

    static void promise27_aLesserFactWithALongerPathIsNotTaken() {
        ValidPaths x = own(2, bits(3, 4));
        lead(x, 0, 2, 3, 1);
        lead(x, 0, 3);
        rows(x, 0, WITHIN, 3, bits(7), 4, bits(6));
        rows(x, 2, WITHIN, 7, bits(8));
        rows(x, 3, WITHIN, 6, bits(9), 8, bits(9));
        solved(x);
        tracks(x, 1, 9, state(0, 4, 0, 0), state(3, 6, 1, 0), state(1, 9, 1, 0));
    }

    /** Procedure 1 is called by 4 and, by an edge ahead of that one's, by 6; its enter and leave are 2, 3. */
    static ValidPaths twoCalls(int begin) {
        ValidPaths x = with(0, 0, 0, 0);
        x.client(OWN);
        x.begin(begin);
        x.call(0, 1, NONE, 0);
        x.call(0, 1, NONE, 0);
        lead(x, 0, 6);
        lead(x, 0, 4);
        lead(x, 2, 3);
        return x;
    }

    static void promise27_intoAnEnterTheFirstCallByNodes() {
        ValidPaths x = twoCalls(bits(2, 3));
        rows(x, 4, IN, 3, bits(9));
        rows(x, 6, IN, 2, bits(9));
        solved(x);
        tracks(x, 2, 9, state(0, 3, 0, 0), state(4, 3, 1, 0), state(2, 9, 3, 1));
    }

    static void promise27_intoAnEnterThenTheLeastFact() {
        ValidPaths x = twoCalls(bits(2, 3));
        rows(x, 4, IN, 2, bits(9), 3, bits(9));
        rows(x, 6, IN, 2, bits(9));
        solved(x);
        tracks(x, 2, 9, state(0, 2, 0, 0), state(4, 2, 1, 0), state(2, 9, 3, 1));
    }

    static void promise27_intoAnEnterACallThatIsFartherIsNotTaken() {
        ValidPaths x = with(0, 0, 0, 0);
        x.call(0, 1, NONE, 0);
        x.call(0, 1, NONE, 0);
        x.node(0, SKIP, 0, 0, 0);
        lead(x, 0, 8, 4);
        lead(x, 0, 6);
        solved(x);
        tracks(x, 2, 0, state(0, 0, 0, 0), state(6, 0, 1, 0), state(2, 0, 3, 1));
    }

    /** Procedure 1 is entered with 8 by call 4 and with 7 by call 6, farther; 7 goes to its leave right away, 8 by a node. */
    static ValidPaths nearAndFar(int skips) {
        ValidPaths x = with(0, 0, 0, 0);
        x.client(OWN);
        x.begin(bits(2));
        x.call(0, 1, NONE, 0);
        x.call(0, 1, NONE, 0);
        lead(x, 0, 4);
        int within = x.node(1, SKIP, 0, 0, 0), last = 0;
        for (int i = 0; i < skips; i++) {
            int next = x.node(0, SKIP, 0, 0, 0);
            lead(x, last, next);
            last = next;
        }
        lead(x, last, 6);
        lead(x, 2, 3);
        lead(x, 2, within, 3);
        rows(x, 4, IN, 2, bits(8));
        rows(x, 6, IN, 2, bits(7));
        rows(x, 2, WITHIN, 7, bits(9), 8, bits(10));
        rows(x, within, WITHIN, 10, bits(9));
        return solved(x);
    }

    static void promise27_theEntersLengthAndTheRestTogetherAreTheLength() {
        tracks(nearAndFar(0), 3, 9, state(0, 2, 0, 0), state(6, 2, 1, 0), state(2, 7, 3, 1), state(3, 9, 1, 1));
        tracks(nearAndFar(1), 3, 9, state(0, 2, 0, 0), state(9, 2, 1, 0), state(6, 2, 1, 0), state(2, 7, 3, 1), state(3, 9, 1, 1));
        tracks(nearAndFar(2), 3, 9, state(0, 2, 0, 0), state(4, 2, 1, 0), state(2, 8, 3, 1), state(8, 10, 1, 1), state(3, 9, 1, 1));
    }

    static void promise27_ofAnEdgeTheLeastNode() {
        ValidPaths x = own(2, bits(5));
        lead(x, 0, 3, 1);
        lead(x, 0, 2, 1);
        rows(x, 0, WITHIN, 5, bits(6, 7));
        rows(x, 2, WITHIN, 7, bits(9));
        rows(x, 3, WITHIN, 6, bits(9));
        solved(x);
        tracks(x, 1, 9, state(0, 5, 0, 0), state(2, 7, 1, 0), state(1, 9, 1, 0));
    }

    static void promise27_ofAnEdgeThenTheLeastFactAtIt() {
        ValidPaths x = own(1, bits(5));
        lead(x, 0, 2, 1);
        rows(x, 0, WITHIN, 5, bits(6, 7));
        rows(x, 2, WITHIN, 6, bits(9), 7, bits(9));
        solved(x);
        tracks(x, 1, 9, state(0, 5, 0, 0), state(2, 6, 1, 0), state(1, 9, 1, 0));
    }

    static void promise27_ofAnEdgeANodeThatIsFartherIsNotTaken() {
        ValidPaths x = own(3, bits(5));
        lead(x, 0, 3, 2, 1);
        lead(x, 0, 4, 1);
        solved(x);
        tracks(x, 1, 5, state(0, 5, 0, 0), state(4, 5, 1, 0), state(1, 5, 1, 0));
    }

    /** MAIN goes to call 4 by 6, .. as well as right away; the procedure called goes from its enter to its leave. */
    static ValidPaths around(int skips, int begin) {
        ValidPaths x = with(0, 0, 0, 0);
        x.client(OWN);
        x.begin(begin);
        x.call(0, 1, NONE, 0);
        lead(x, 0, 4);
        int last = 0;
        for (int i = 0; i < skips; i++) {
            int next = x.node(0, SKIP, 0, 0, 0);
            lead(x, last, next);
            last = next;
        }
        lead(x, last, 4);
        lead(x, 2, 3);
        rows(x, 4, WITHIN);
        return x;
    }

    static void promise27_acrossComesBeforeBack() {
        ValidPaths x = around(2, bits(6));
        rows(x, 6, WITHIN, 6, bits(5));
        rows(x, 4, WITHIN, 5, bits(9));
        rows(x, 4, IN, 6, bits(6));
        rows(x, 4, BACK, 6, bits(9));
        solved(x);
        tracks(x, 5, 9, state(0, 6, 0, 0), state(6, 6, 1, 0), state(7, 5, 1, 0), state(4, 5, 1, 0), state(5, 9, 2, 0));
    }

    static void promise27_backWhereItIsShorterThanAcross() {
        ValidPaths x = around(3, bits(6));
        rows(x, 6, WITHIN, 6, bits(5));
        rows(x, 4, WITHIN, 5, bits(9));
        rows(x, 4, IN, 6, bits(6));
        rows(x, 4, BACK, 6, bits(9));
        solved(x);
        tracks(x, 5, 9, state(0, 6, 0, 0), state(4, 6, 1, 0), state(2, 6, 3, 1), state(3, 6, 1, 1), state(5, 9, 4, 0));
    }

    static void promise27_acrossByTheLeastFactAtTheCall() {
        ValidPaths x = around(0, bits(4));
        rows(x, 0, WITHIN, 4, bits(5, 6));
        rows(x, 4, WITHIN, 5, bits(9), 6, bits(9));
        solved(x);
        tracks(x, 5, 9, state(0, 4, 0, 0), state(4, 5, 1, 0), state(5, 9, 2, 0));
    }

    static void promise27_backByTheLeastFactAtTheCall() {
        ValidPaths x = around(0, bits(4));
        rows(x, 0, WITHIN, 4, bits(5, 6));
        rows(x, 4, IN, 5, bits(8), 6, bits(7));
        rows(x, 4, BACK, 7, bits(9), 8, bits(9));
        solved(x);
        tracks(x, 5, 9, state(0, 4, 0, 0), state(4, 5, 1, 0), state(2, 8, 3, 1), state(3, 8, 1, 1), state(5, 9, 4, 0));
    }

    static void promise27_backThenByTheLeastFactThatItGoesInTo() {
        ValidPaths x = around(0, bits(5));
        rows(x, 4, IN, 5, bits(7, 8));
        rows(x, 2, WITHIN, 7, bits(11), 8, bits(10));
        rows(x, 4, BACK, 10, bits(9), 11, bits(9));
        solved(x);
        tracks(x, 5, 9, state(0, 5, 0, 0), state(4, 5, 1, 0), state(2, 7, 3, 1), state(3, 11, 1, 1), state(5, 9, 4, 0));
    }

    static void promise27_backThenByTheLeastFactAtTheLeave() {
        ValidPaths x = around(0, bits(5));
        rows(x, 4, IN, 5, bits(7));
        rows(x, 2, WITHIN, 7, bits(10, 11));
        rows(x, 4, BACK, 10, bits(9), 11, bits(9));
        solved(x);
        tracks(x, 5, 9, state(0, 5, 0, 0), state(4, 5, 1, 0), state(2, 7, 3, 1), state(3, 10, 1, 1), state(5, 9, 4, 0));
    }

    static void promise27_backByTheFirstThatFitsAndNoFurther() {
        // 11 goes BACK to 10, which is also the fact that 9 was come from at the leave
        ValidPaths x = around(0, bits(5));
        rows(x, 4, IN, 5, bits(7, 8));
        rows(x, 2, WITHIN, 7, bits(10), 8, bits(11));
        rows(x, 4, BACK, 10, bits(9), 11, bits(10));
        solved(x);
        tracks(x, 5, 9, state(0, 5, 0, 0), state(4, 5, 1, 0), state(2, 7, 3, 1), state(3, 10, 1, 1), state(5, 9, 4, 0));
    }

    static void promise27_backByAGreaterFactWhereThatIsShorter() {
        ValidPaths x = around(0, bits(4));
        int skip = x.node(1, SKIP, 0, 0, 0), end = x.node(1, SKIP, 0, 0, 0);
        lead(x, 2, skip, end, 3);
        rows(x, 0, WITHIN, 4, bits(5, 6));
        rows(x, 4, IN, 5, bits(7), 6, bits(8));
        rows(x, 2, WITHIN, 7, bits(10), 8, bits(8));
        rows(x, end, WITHIN, 10, bits(11));
        rows(x, 4, BACK, 11, bits(9), 8, bits(9));
        solved(x);
        tracks(x, 5, 9, state(0, 4, 0, 0), state(4, 6, 1, 0), state(2, 8, 3, 1), state(3, 8, 1, 1), state(5, 9, 4, 0));
    }

    static void promise27_withinACallTheFactAtTheEnterIsTheOneGoneInWith() {
        // 3 goes in to 8 alone; 7, which is there by another call, would be the lesser
        ValidPaths x = twoCalls(bits(2, 3));
        rows(x, 4, WITHIN);
        rows(x, 6, WITHIN);
        rows(x, 4, IN, 2, bits(7));
        rows(x, 6, IN, 3, bits(8));
        rows(x, 2, WITHIN, 7, bits(10), 8, bits(10));
        rows(x, 6, BACK, 10, bits(9));
        solved(x);
        tracks(x, 7, 9, state(0, 3, 0, 0), state(6, 3, 1, 0), state(2, 8, 3, 1), state(3, 10, 1, 1), state(7, 9, 4, 0));
    }

    static void promise27_callsWithinCallsComeBackOneByOne() {
        ValidPaths x = with(0, 0, 0, 0, 0, 0);
        x.client(OWN);
        x.begin(bits(1));
        int a = x.call(0, 1, NONE, 0), b = x.call(1, 2, NONE, 0);
        lead(x, 0, a);
        lead(x, a + 1, 1);
        lead(x, 2, b);
        lead(x, b + 1, 3);
        lead(x, 4, 5);
        rows(x, a, WITHIN);
        rows(x, b, WITHIN);
        solved(x);
        tracks(x, 1, 1, state(0, 1, 0, 0), state(a, 1, 1, 0), state(2, 1, 3, 1), state(b, 1, 1, 1), state(4, 1, 3, 2),
            state(5, 1, 1, 2), state(b + 1, 1, 4, 1), state(3, 1, 1, 1), state(a + 1, 1, 4, 0), state(1, 1, 1, 0));
        tracks(x, 5, 1, state(0, 1, 0, 0), state(a, 1, 1, 0), state(2, 1, 3, 1), state(b, 1, 1, 1), state(4, 1, 3, 2), state(5, 1, 1, 2));
    }

    static void promise27_aCallThatIsBackThenOneThatIsNot() {
        ValidPaths x = with(0, 0, 0, 0);
        x.client(OWN);
        x.begin(bits(1));
        int a = x.call(0, 1, NONE, 0), b = x.call(0, 1, NONE, 0);
        lead(x, 0, a);
        lead(x, a + 1, b);
        lead(x, 2, 3);
        rows(x, a, WITHIN);
        rows(x, b, IN, 1, bits(2));
        solved(x);
        tracks(x, 3, 2, state(0, 1, 0, 0), state(a, 1, 1, 0), state(2, 1, 3, 1), state(3, 1, 1, 1), state(a + 1, 1, 4, 0),
            state(b, 1, 1, 0), state(2, 2, 3, 1), state(3, 2, 1, 1));
    }

    static void promise27_aCallOfItsOwnProcedure() {
        ValidPaths x = own(1, bits(1));
        int call = x.call(0, 0, NONE, 0);
        lead(x, 0, call);
        lead(x, call + 1, 1);
        lead(x, 0, 2, 1);
        rows(x, call, WITHIN);
        rows(x, call, IN, 1, bits(2), 2, bits(3));
        rows(x, call, BACK, 3, bits(2), 2, bits(1));
        rows(x, 2, WITHIN, 3, bits(3));
        solved(x);
        // with the last call open or all back: the leave with 3 is nearest by open calls
        tracks(x, 1, 3, state(0, 1, 0, 0), state(call, 1, 1, 0), state(0, 2, 3, 1), state(call, 2, 1, 1), state(0, 3, 3, 2),
            state(2, 3, 1, 2), state(1, 3, 1, 2));
        tracks(x, 1, 1, state(0, 1, 0, 0), state(call, 1, 1, 0), state(0, 2, 3, 1), state(call, 2, 1, 1), state(0, 3, 3, 2),
            state(2, 3, 1, 2), state(1, 3, 1, 2), state(call + 1, 2, 4, 1), state(1, 2, 1, 1), state(call + 1, 1, 4, 0), state(1, 1, 1, 0));
    }

    static void promise27_twoCallsOneBehindTheOther() {
        for (int f : FIRST_AND_LAST) {
            ValidPaths x = solved(oneBehindTheOther(0, bits(f)));
            tracks(x, 7, f, state(0, f, 0, 0), state(4, f, 1, 0), state(2, f, 3, 1), state(3, f, 1, 1), state(5, f, 4, 0),
                state(6, f, 1, 0), state(2, f, 3, 1), state(3, f, 1, 1), state(7, f, 4, 0));
            tracks(x, 3, f, state(0, f, 0, 0), state(4, f, 1, 0), state(2, f, 3, 1), state(3, f, 1, 1));
            tracks(x, 3, 0, state(0, 0, 0, 0), state(4, 0, 1, 0), state(2, 0, 3, 1), state(3, 0, 1, 1));
        }
    }

    static void promise27_byZeroThroughACall() {
        ValidPaths x = oneBehindTheOther(1, bits(1));
        x.zero(4, BACK, bits(7));
        x.zero(6, BACK, bits(8));
        solved(x);
        tracks(x, 2, 1, state(0, 1, 0, 0), state(4, 1, 1, 0), state(2, 1, 3, 1));
        tracks(x, 5, 7, state(0, 0, 0, 0), state(4, 0, 1, 0), state(2, 0, 3, 1), state(8, 0, 1, 1), state(3, 0, 1, 1), state(5, 7, 4, 0));
        tracks(x, 7, 8, state(0, 0, 0, 0), state(4, 0, 1, 0), state(5, 0, 2, 0), state(6, 0, 1, 0), state(2, 0, 3, 1), state(8, 0, 1, 1),
            state(3, 0, 1, 1), state(7, 8, 4, 0));
    }

    static void promise27_byFactsOfTheirOwnThroughEachCall() {
        ValidPaths x = oneBehindTheOther(0, bits(12));
        rows(x, 4, IN, 12, bits(11));
        rows(x, 4, BACK, 11, bits(10));
        rows(x, 6, IN, 10, bits(12));
        rows(x, 2, WITHIN, 11, bits(11), 12, bits(1));
        rows(x, 6, BACK, 1, bits(12));
        solved(x);
        tracks(x, 1, 12, state(0, 12, 0, 0), state(4, 12, 1, 0), state(2, 11, 3, 1), state(3, 11, 1, 1), state(5, 10, 4, 0),
            state(6, 10, 1, 0), state(2, 12, 3, 1), state(3, 1, 1, 1), state(7, 12, 4, 0), state(1, 12, 1, 0));
        tracks(x, 3, 1, state(0, 12, 0, 0), state(4, 12, 1, 0), state(2, 11, 3, 1), state(3, 11, 1, 1), state(5, 10, 4, 0),
            state(6, 10, 1, 0), state(2, 12, 3, 1), state(3, 1, 1, 1));
    }

    static void promise27_ofTheLastNode() {
        ValidPaths x = full();
        due("track(63, 0)", x.track(63, 0), 63);
        due("its end", x.at(62, 0), 63);
        due("ACROSS", x.at(62, 2), 2);
        due("track(63, 1)", x.track(63, 1), 125);
        for (int i = 0; i < 125; i++) {
            int within = i < 62 ? i : i - 62;
            due("node " + i, x.at(i, 0), i == 61 ? 62 : i == 124 ? 63 : i == 123 ? 1 : within == 0 ? 0 : within + 1);
            due("open " + i, x.at(i, 3), i < 62 || i == 124 ? 0 : 1);
        }
    }

    // ---------------------------------------------------------------- promise 28: at

    static void promise28_beforeAnyTrackEachIsBad() {
        refused(UNSOLVED, "at(0, 0)", BAD, () -> program(), x -> x.at(0, 0));
        ValidPaths x = solved(program());
        for (int what = 0; what < 4; what++) due("at(0, " + what + ")", x.at(0, what), BAD);
    }

    static void promise28_aRefusedTrackIsNone() {
        ValidPaths x = solved(program());
        x.track(4, 5);
        x.track(-1, 0);
        due("at(0, 0)", x.at(0, 0), BAD);
    }

    static void promise28_noStateIsBad() {
        int[] none = {-1, 7, 8, 299, 300, NONE, MAX, MIN};
        for (int i : none) refused(SOLVED, "at(" + i + ", 0)", BAD, () -> program(), x -> x.at(i, 0));
        due("the last", solved(program()).track(1, 0), 7);
    }

    static void promise28_whatThereIsNotIsBad() {
        int[] none = {-1, 4, 5, NONE, MAX, MIN};
        for (int what : none) refused(ALWAYS, "at(0, " + what + ")", BAD, () -> program(), x -> x.at(0, what));
    }

    static int[][] wayOfSix() {
        return new int[][] {state(0, 0, 0, 0), state(4, 0, 1, 0), state(5, 5, 1, 0), state(2, 5, 3, 1), state(8, 5, 1, 1), state(3, 7, 1, 1), state(6, 6, 4, 0)};
    }

    static void promise28_nodeFactWayAndOpenCalls() {
        tracks(solved(program()), 6, 6, wayOfSix());
        tracks(solved(program()), 6, 5, state(0, 0, 0, 0), state(4, 0, 1, 0), state(5, 5, 1, 0), state(6, 5, 2, 0));
    }

    static void promise28_theLatestThatWasNotRefused() {
        ValidPaths x = solved(program());
        x.track(6, 6);
        due("does not hold", x.track(4, 5), STATE);
        due("no node", x.track(10, 0), BAD);
        laid(x, wayOfSix());
        x.track(4, 0);
        laid(x, state(0, 0, 0, 0), state(4, 0, 1, 0));
        x = solved(ring());
        x.track(2, 1);
        due("too long", x.track(31, 10), FULL);
        laid(x, state(0, 1, 0, 0), state(2, 1, 1, 0));
    }

    static void promise28_itStaysWhenTheSolvingIsEnded() {
        changes((what, change) -> {
            ValidPaths x = solved(whole(TAINT));
            x.track(6, 6);
            change.on(x);
            laid(x, wayOfSix());
            x.solve(1);
            due("in part solved anew", x.track(0, 0), STATE);
            laid(x, wayOfSix());
        });
    }

    static void promise28_aShorterOneBehindALonger() {
        ValidPaths x = solved(ring());
        x.track(30, 10);
        x.track(0, 0);
        laid(x, state(0, 0, 0, 0));
        due("state 1 of the former", x.at(1, 0), BAD);
        due("state 299 of the former", x.at(299, 0), BAD);
    }
}
