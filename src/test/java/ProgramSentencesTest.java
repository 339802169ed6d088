/** Promises 1 to 12 and the terms they are read with: a test for each sentence that names a boundary or a refusal. */
public final class ProgramSentencesTest extends Checks {
    public static void main(String[] args) throws IllegalAccessException {
        runAll(ProgramSentencesTest.class, 1, 12);
    }

    static ValidPaths program() {
        return whole(TAINT);
    }

    // ---------------------------------------------------------------- promise 1: a new object

    static void promise01_thereAreNoProcedures() {
        ValidPaths x = new ValidPaths();
        due("count(0)", x.count(0), 0);
        due("ends(0, false)", x.ends(0, false), BAD);
        due("node of MAIN", x.node(0, SKIP, 0, 0, 0), BAD);
        due("outcome of MAIN", x.outcome(0, NONE), BAD);
        due("call in MAIN", x.call(0, 0, NONE, 0), BAD);
    }

    static void promise01_thereAreNoNodesEdgesCallsTurnsStates() {
        ValidPaths x = new ValidPaths();
        for (int what = 1; what <= 5; what++) due("count(" + what + ")", x.count(what), 0);
        due("told(0, 0)", x.told(0, 0), BAD);
        due("edge(0, 0)", x.edge(0, 0), BAD);
        due("at(0, 0)", x.at(0, 0), BAD);
        due("digest()", x.digest(), 17 * 31);
    }

    static void promise01_theClientIsTaint() {
        due("client(OWN)", new ValidPaths().client(OWN), TAINT);
        ValidPaths x = with(1, 0);
        due("a source taints", x.goes(x.node(0, SOURCE, 5, 0, 0), WITHIN, 0), bits(0, 5));
    }

    static void promise01_nothingIsFoundOrSolvedOrToldAtTheBeginning() {
        ValidPaths x = new ValidPaths();
        due("finding()", x.finding(), 0);
        for (int f = 1; f <= 5; f++) due("findings(" + f + ")", x.findings(f), 0);
        due("solved()", x.solved(), 0);
        due("begin(0)", x.begin(0), 0);
    }

    static void promise01_whatAsksForAProgramIsRefused() {
        ValidPaths x = new ValidPaths();
        long[] bad = {x.argument(0, 0, 1), x.copy(0, 0, 0, 0, 0), x.given(0, 0), x.is(0, 0), x.flow(0, 0, 1, 1), x.zero(0, 0, 1),
            x.forget(0, 0), x.goes(0, 0, 0), x.holds(0), x.from(0, 0), x.summary(0, 0), x.length(0, 0), x.track(0, 0)};
        for (int i = 0; i < bad.length; i++) due("no node, call " + i, bad[i], BAD);
        long[] state = {x.solve(0), x.solve(ALL), x.edges(false), x.edges(true), x.share(1), x.reports(), x.report(0, 0)};
        for (int i = 0; i < state.length; i++) due("not now, call " + i, state[i], STATE);
        due("finding()", x.finding(), 0);
    }

    static void promise01_objectsHaveNothingInCommon() {
        ValidPaths x = program(), y = new ValidPaths();
        x.solve(ALL);
        x.track(1, 0);
        x.forget(0, WITHIN);
        due("procedures", y.count(0), 0);
        due("client", y.client(TAINT), TAINT);
        due("states", y.count(5), 0);
        due("finding()", y.finding(), 0);
        due("begin(0)", y.begin(0), 0);
        due("the other is solved still", x.solved(), 1);
    }

    // ---------------------------------------------------------------- promise 2: procedure

    static void promise02_localsBelowNoneAreBad() {
        int[] locals = {-1, -5, MIN};
        for (int l : locals) refused(ALWAYS, "procedure(" + l + ", 0)", BAD, () -> program(), x -> x.procedure(l, 0));
        refused(ALWAYS, "procedure(-1, -1)", BAD, () -> program(), x -> x.procedure(-1, -1));
    }

    static void promise02_localsAboveEightAreBad() {
        int[] locals = {9, 10, MAX};
        for (int l : locals) refused(ALWAYS, "procedure(" + l + ", 4)", BAD, () -> program(), x -> x.procedure(l, 4));
    }

    static void promise02_noneToEightLocalsAreFine() {
        for (int l = 0; l <= 8; l++) {
            ValidPaths x = with(l, 0);
            due("procedures", x.count(0), 1);
            due("the last of " + l, x.node(0, SET, 4 + l, 0, 0), 2);
            due("one more", x.node(0, SET, 5 + l, 0, 0), BAD);
        }
    }

    static void promise02_parametersBelowNoneAreBad() {
        int[] parameters = {-1, -5, MIN};
        for (int p : parameters) refused(ALWAYS, "procedure(4, " + p + ")", BAD, () -> program(), x -> x.procedure(4, p));
    }

    static void promise02_parametersAboveFourAreBad() {
        int[][] bad = {{5, 5}, {8, 5}, {8, 8}, {8, MAX}};
        for (int[] b : bad) refused(ALWAYS, "procedure(" + b[0] + ", " + b[1] + ")", BAD, () -> program(), x -> x.procedure(b[0], b[1]));
    }

    static void promise02_moreParametersThanLocalsAreBad() {
        for (int l = 0; l < 4; l++) {
            int locals = l;
            refused(ALWAYS, "procedure(" + l + ", " + (l + 1) + ")", BAD, () -> program(), x -> x.procedure(locals, locals + 1));
        }
    }

    static void promise02_asManyParametersAsLocalsAreFine() {
        for (int l = 0; l <= 4; l++) due("procedure(" + l + ", " + l + ")", new ValidPaths().procedure(l, l), 0);
        due("procedure(8, 4)", new ValidPaths().procedure(8, 4), 0);
    }

    static void promise02_theyAreNumberedFromNoneOn() {
        ValidPaths x = new ValidPaths();
        for (int p = 0; p < 8; p++) due("procedure", x.procedure(0, 0), p);
    }

    static void promise02_theNinthIsFull() {
        refused(ALWAYS, "ninth", FULL, () -> eightProcedures(), x -> x.procedure(0, 0));
    }

    static void promise02_noRoomForItsTwoNodesIsFull() {
        refused(ALWAYS, "with 63 nodes", FULL, () -> nodes(63), x -> x.procedure(0, 0));
        refused(ALWAYS, "with 64 nodes", FULL, () -> nodes(64), x -> x.procedure(0, 0));
    }

    static void promise02_theLastTwoNodesMakeOneMore() {
        ValidPaths x = nodes(62);
        due("procedure", x.procedure(0, 0), 1);
        due("its enter", x.ends(1, false), 62);
        due("its leave", x.ends(1, true), 63);
        due("nodes", x.count(1), 64);
    }

    static void promise02_badComesBeforeFull() {
        refused(ALWAYS, "of procedures", BAD, () -> eightProcedures(), x -> x.procedure(9, 0));
        refused(ALWAYS, "of nodes", BAD, () -> nodes(64), x -> x.procedure(0, 1));
    }

    static void promise02_itsEnterIsMadeWithItAndTheLeaveBehindIt() {
        ValidPaths x = with(0, 0);
        x.node(0, SKIP, 0, 0, 0);
        x.procedure(2, 1);
        int[][] want = {{0, ENTER}, {0, LEAVE}, {0, SKIP}, {1, ENTER}, {1, LEAVE}};
        due("nodes", x.count(1), want.length);
        for (int n = 0; n < want.length; n++) {
            due("procedure of " + n, x.told(n, 0), want[n][0]);
            due("kind of " + n, x.told(n, 1), want[n][1]);
        }
        due("edges", x.count(2), 0);
    }

    static void promise02_theFirstLocalsAreItsParameters() {
        ValidPaths x = with(2, 0, 3, 2);
        x.client(UNSET);
        int call = x.call(0, 1, NONE, 2);
        x.argument(call, 0, 6);
        x.argument(call, 1, 5);
        due("first", x.goes(call, IN, 6), bits(5));
        due("second", x.goes(call, IN, 5), bits(6));
        due("the other is none", x.goes(call, IN, 0), bits(0, 7));
    }

    // ---------------------------------------------------------------- promise 3: ends

    static void promise03_theEnterOrTheLeave() {
        ValidPaths x = program();
        int[][] want = {{0, 1}, {2, 3}};
        for (int p = 0; p < 2; p++) {
            due("enter of " + p, x.ends(p, false), want[p][0]);
            due("leave of " + p, x.ends(p, true), want[p][1]);
        }
    }

    static void promise03_ofTheEighth() {
        ValidPaths x = eightProcedures();
        due("enter", x.ends(7, false), 14);
        due("leave", x.ends(7, true), 15);
        due("of a ninth", x.ends(8, true), BAD);
    }

    static void promise03_ofNoProcedureIsBad() {
        int[] none = {-1, 2, 8, NONE, MAX, MIN};
        for (int p : none) {
            refused(ALWAYS, "ends(" + p + ", false)", BAD, () -> program(), x -> x.ends(p, false));
            refused(ALWAYS, "ends(" + p + ", true)", BAD, () -> program(), x -> x.ends(p, true));
        }
    }

    // ---------------------------------------------------------------- promise 4: outcome

    static void promise04_noneAtFirst() {
        ValidPaths x = with(1, 0, 8, 4);
        due("of MAIN", x.outcome(0, 5), NONE);
        due("of the other", x.outcome(1, 12), NONE);
    }

    static void promise04_itAnswersWhatItWas() {
        ValidPaths x = with(3, 0);
        x.outcome(0, 6);
        due("6", x.outcome(0, 7), 6);
        due("7", x.outcome(0, 7), 7);
        due("7 again", x.outcome(0, NONE), 7);
        due("none", x.outcome(0, NONE), NONE);
    }

    static void promise04_eachProcedureHasItsOwn() {
        ValidPaths x = with(2, 0, 2, 0);
        x.outcome(0, 5);
        x.outcome(1, 6);
        due("of MAIN", x.outcome(0, NONE), 5);
        due("of the other", x.outcome(1, NONE), 6);
    }

    static void promise04_aParameterAndTheLastLocalAreFine() {
        ValidPaths x = with(8, 4);
        for (int v = 5; v <= 12; v++) due("outcome(0, " + v + ")", x.outcome(0, v), v == 5 ? NONE : v - 1);
    }

    static void promise04_aGlobalIsBad() {
        for (int v = 1; v <= 4; v++) {
            int global = v;
            refused(ALWAYS, "outcome(1, " + v + ")", BAD, () -> program(), x -> x.outcome(1, global));
        }
    }

    static void promise04_whatIsNoLocalOfItsOwnIsBad() {
        int[] none = {0, 8, 12, 13, -1, -4, -6, MAX, MIN};
        for (int v : none) refused(ALWAYS, "outcome(1, " + v + ")", BAD, () -> program(), x -> x.outcome(1, v));
        refused(ALWAYS, "a local of the other alone", BAD, () -> program(), x -> x.outcome(0, 7));
        refused(ALWAYS, "with no locals", BAD, () -> with(0, 0), x -> x.outcome(0, 5));
        refused(ALWAYS, "with eight", BAD, () -> with(8, 0), x -> x.outcome(0, 13));
    }

    static void promise04_ofNoProcedureIsBad() {
        int[] none = {-1, 2, NONE, MAX, MIN};
        for (int p : none) {
            refused(ALWAYS, "outcome(" + p + ", 5)", BAD, () -> program(), x -> x.outcome(p, 5));
            refused(ALWAYS, "outcome(" + p + ", NONE)", BAD, () -> program(), x -> x.outcome(p, NONE));
        }
    }

    // ---------------------------------------------------------------- promise 5: node

    static void promise05_kindsTwoToEightAreMade() {
        ValidPaths x = with(0, 0);
        for (int kind = SKIP; kind <= SINK; kind++) {
            due("node of kind " + kind, x.node(0, kind, 1, 2, 3), kind);
            due("its kind", x.told(kind, 1), kind);
        }
    }

    static void promise05_otherKindsAreBad() {
        int[] kinds = {ENTER, LEAVE, CALL, RETURN, 11, -1, NONE, MAX, MIN};
        for (int k : kinds) refused(ALWAYS, "kind " + k, BAD, () -> program(), x -> x.node(0, k, 1, 2, 3));
    }

    static void promise05_ofNoProcedureIsBad() {
        int[] none = {-1, 2, NONE, MAX, MIN};
        for (int p : none) refused(ALWAYS, "node(" + p + ", SKIP, ..)", BAD, () -> program(), x -> x.node(p, SKIP, 1, 1, 1));
    }

    static final int[] NO_VARIABLES = {0, -1, NONE, -4, -6, 7, 12, 13, MAX, MIN};

    static void promise05_xThatIsNoVariableIsBad() {
        for (int v : NO_VARIABLES) {
            for (int k = SET; k <= SINK; k++) {
                int kind = k;
                refused(AS_MADE, "kind " + k + " of " + v, BAD, () -> program(), x -> x.node(0, kind, v, 1, 1));
            }
        }
        refused(ALWAYS, "SET 0", BAD, () -> program(), x -> x.node(0, SET, 0, 1, 1));
    }

    static void promise05_yThatIsNoVariableIsBad() {
        for (int v : NO_VARIABLES) {
            refused(ALWAYS, "COPY from " + v, BAD, () -> program(), x -> x.node(0, COPY, 1, v, 1));
            refused(ALWAYS, "JOIN from " + v, BAD, () -> program(), x -> x.node(0, JOIN, 1, v, 1));
        }
    }

    static void promise05_zThatIsNoVariableIsBad() {
        for (int v : NO_VARIABLES) refused(ALWAYS, "JOIN from 1 and " + v, BAD, () -> program(), x -> x.node(0, JOIN, 1, 1, v));
    }

    static void promise05_whatTheKindDoesNotHaveIsNotLookedAt() {
        int[] wild = {0, -1, 13, 99, MAX, MIN};
        for (int v : wild) {
            ValidPaths x = with(0, 0);
            due("SKIP", x.node(0, SKIP, v, v, v), 2);
            due("SET", x.node(0, SET, 1, v, v), 3);
            due("COPY", x.node(0, COPY, 1, 2, v), 4);
            due("SOURCE", x.node(0, SOURCE, 1, v, v), 5);
            due("CLEAN", x.node(0, CLEAN, 1, v, v), 6);
            due("SINK", x.node(0, SINK, 1, v, v), 7);
        }
    }

    static void promise05_whatTheKindDoesNotHaveIsNotTold() {
        ValidPaths x = kinds();
        int[] has = {0, 0, 0, 1, 2, 3, 1, 1, 1, 0, 0};
        for (int n = 0; n < has.length; n++) {
            for (int i = 0; i < 3; i++) due("told(" + n + ", " + (2 + i) + ")", x.told(n, 2 + i), i < has[n] ? 1 + i : NONE);
        }
    }

    static void promise05_variablesMayBeTheSame() {
        ValidPaths x = with(1, 0);
        due("COPY 5 from 5", x.node(0, COPY, 5, 5, 0), 2);
        due("JOIN 5 from 5 and 5", x.node(0, JOIN, 5, 5, 5), 3);
        due("JOIN 4 from 4 and 5", x.node(0, JOIN, 4, 4, 5), 4);
    }

    static void promise05_variablesAreThoseOfItsOwnProcedure() {
        ValidPaths x = with(1, 0, 8, 0);
        due("12 of the other", x.node(1, JOIN, 12, 12, 12), 4);
        due("5 of MAIN", x.node(0, JOIN, 5, 5, 5), 5);
        due("6 of MAIN as x", x.node(0, JOIN, 6, 5, 5), BAD);
        due("6 of MAIN as y", x.node(0, JOIN, 5, 6, 5), BAD);
        due("6 of MAIN as z", x.node(0, JOIN, 5, 5, 6), BAD);
    }

    static void promise05_theSixtyFourthIsTheLast() {
        due("64th", nodes(63).node(0, SKIP, 0, 0, 0), 63);
        refused(ALWAYS, "65th", FULL, () -> nodes(64), x -> x.node(0, SKIP, 0, 0, 0));
    }

    static void promise05_badComesBeforeFull() {
        refused(ALWAYS, "x", BAD, () -> nodes(64), x -> x.node(0, SET, 6, 0, 0));
        refused(ALWAYS, "kind", BAD, () -> nodes(64), x -> x.node(0, CALL, 1, 1, 1));
        refused(ALWAYS, "procedure", BAD, () -> nodes(64), x -> x.node(1, SKIP, 1, 1, 1));
    }

    // ---------------------------------------------------------------- promise 6: call

    static void promise06_itsNumberAndBehindItItsReturn() {
        ValidPaths x = with(1, 0, 3, 2);
        due("call", x.call(0, 1, 5, 2), 4);
        int[] call = {0, CALL, NONE, NONE, NONE, 1, 5, 5, 2, NONE}, back = {0, RETURN, NONE, NONE, NONE, NONE, NONE, NONE, NONE, 4};
        for (int what = 0; what < 10; what++) {
            due("told(4, " + what + ")", x.told(4, what), call[what]);
            due("told(5, " + what + ")", x.told(5, what), back[what]);
        }
        due("nodes", x.count(1), 6);
        due("calls", x.count(3), 1);
        due("edges", x.count(2), 0);
    }

    static void promise06_noneToFourArgumentsAllEmpty() {
        for (int n = 0; n <= 4; n++) {
            ValidPaths x = with(0, 0);
            due("call for " + n, x.call(0, 0, NONE, n), 2);
            due("room", x.told(2, 8), n);
            for (int i = 0; i < n; i++) due("given(2, " + i + ")", x.given(2, i), NONE);
            due("one more", x.given(2, n), FINDING);
        }
    }

    static void promise06_moreThanFourIsBad() {
        int[] more = {5, 6, 64, MAX};
        for (int n : more) refused(ALWAYS, "call for " + n, BAD, () -> program(), x -> x.call(0, 1, 6, n));
    }

    static void promise06_fewerThanNoneIsSize() {
        int[] fewer = {-1, -2, NONE, MIN};
        for (int n : fewer) found(ALWAYS, "call for " + n, SIZE, () -> program(), x -> x.call(0, 1, 6, n));
    }

    static void promise06_roomNeedNotBeAsTheParametersAre() {
        ValidPaths x = with(0, 0, 4, 4);
        due("fewer", x.call(0, 1, NONE, 0), 4);
        due("more", x.call(0, 0, NONE, 4), 6);
    }

    static void promise06_itsOwnProcedureAndMainMayBeCalled() {
        ValidPaths x = with(0, 0, 0, 0);
        due("its own", x.call(1, 1, NONE, 0), 4);
        due("MAIN", x.call(1, 0, NONE, 0), 6);
        due("MAIN itself", x.call(0, 0, NONE, 0), 8);
        due("calls", x.count(3), 3);
    }

    static void promise06_ofOrInNoProcedureIsBad() {
        int[] none = {-1, 2, NONE, MAX, MIN};
        for (int p : none) {
            refused(ALWAYS, "in " + p, BAD, () -> program(), x -> x.call(p, 1, NONE, 2));
            refused(ALWAYS, "of " + p, BAD, () -> program(), x -> x.call(0, p, NONE, 2));
        }
    }

    static void promise06_theResultMayBeAnyVariableOrNone() {
        int[] results = {NONE, 1, 4, 5, 12};
        for (int r : results) {
            ValidPaths x = with(8, 0);
            due("result " + r, x.call(0, 0, r, 0), 2);
            due("told", x.told(2, 6), r);
        }
    }

    static void promise06_aResultThatIsNoVariableIsBad() {
        int[] none = {0, -1, -4, -6, 7, 12, 13, MAX, MIN};
        for (int r : none) refused(ALWAYS, "result " + r, BAD, () -> program(), x -> x.call(0, 1, r, 2));
    }

    static void promise06_theResultIsOfWhereItIs() {
        refused(ALWAYS, "a local of the one called alone", BAD, () -> program(), x -> x.call(0, 1, 7, 2));
        due("a local of where it is alone", program().call(1, 0, 7, 0), 10);
    }

    static void promise06_noRoomForItsTwoNodesIsFull() {
        due("with 62 nodes", nodes(62).call(0, 0, NONE, 0), 62);
        refused(ALWAYS, "with 63 nodes", FULL, () -> nodes(63), x -> x.call(0, 0, NONE, 0));
        refused(ALWAYS, "with 64 nodes", FULL, () -> nodes(64), x -> x.call(0, 0, NONE, 0));
    }

    static void promise06_badComesBeforeFull() {
        refused(ALWAYS, "n", BAD, () -> nodes(64), x -> x.call(0, 0, NONE, 5));
        refused(ALWAYS, "result", BAD, () -> nodes(64), x -> x.call(0, 0, 6, 0));
        refused(ALWAYS, "procedure", BAD, () -> nodes(64), x -> x.call(1, 0, NONE, 0));
        refused(ALWAYS, "procedure called", BAD, () -> nodes(64), x -> x.call(0, 1, NONE, 0));
    }

    static void promise06_badComesBeforeSize() {
        refused(ALWAYS, "result", BAD, () -> program(), x -> x.call(0, 1, 7, -1));
        refused(ALWAYS, "procedure", BAD, () -> program(), x -> x.call(2, 1, NONE, -1));
        refused(ALWAYS, "procedure called", BAD, () -> program(), x -> x.call(0, 2, NONE, -1));
    }

    static void promise06_fullComesBeforeSize() {
        refused(ALWAYS, "with 63 nodes", FULL, () -> nodes(63), x -> x.call(0, 0, NONE, -1));
        found(ALWAYS, "with 62 nodes", SIZE, () -> nodes(62), x -> x.call(0, 0, NONE, -1));
    }

    // ---------------------------------------------------------------- promise 7: argument

    static void promise07_anArgumentIsGiven() {
        ValidPaths x = with(8, 0);
        x.call(0, 0, NONE, 4);
        int[] variables = {1, 4, 5, 12};
        for (int i = 0; i < 4; i++) due("argument(2, " + i + ", ..)", x.argument(2, i, variables[i]), 1);
        for (int i = 0; i < 4; i++) due("given(2, " + i + ")", x.given(2, i), variables[i]);
        due("another instead", x.argument(2, 3, 1), 1);
        due("given(2, 3)", x.given(2, 3), 1);
    }

    static void promise07_noneEmptiesIt() {
        ValidPaths x = program();
        due("argument", x.argument(5, 0, NONE), 1);
        due("given(5, 0)", x.given(5, 0), NONE);
        due("the other", x.given(5, 1), 1);
        due("an empty one", x.argument(5, 0, NONE), 1);
    }

    static void promise07_argumentsAreOfTheirCallAlone() {
        ValidPaths x = with(0, 0);
        x.call(0, 0, NONE, 4);
        x.call(0, 0, NONE, 4);
        for (int i = 0; i < 4; i++) x.argument(2, i, 1 + i);
        for (int i = 0; i < 4; i++) due("of the other", x.given(4, i), NONE);
    }

    static void promise07_noNodeIsBad() {
        int[] none = {-1, 10, 64, NONE, MAX, MIN};
        for (int n : none) refused(ALWAYS, "argument(" + n + ", 0, 5)", BAD, () -> program(), x -> x.argument(n, 0, 5));
    }

    static void promise07_noVariableIsBad() {
        int[] none = {0, -1, -4, -6, 7, 13, MAX, MIN};
        for (int v : none) refused(ALWAYS, "argument(5, 0, " + v + ")", BAD, () -> program(), x -> x.argument(5, 0, v));
    }

    static void promise07_theVariableIsOfWhereTheCallIs() {
        ValidPaths x = with(0, 0, 2, 2);
        int out = x.call(0, 1, NONE, 2), in = x.call(1, 0, NONE, 2);
        due("a local of the one called alone", x.argument(out, 0, 5), BAD);
        due("a local of where it is alone", x.argument(in, 0, 6), 1);
    }

    static void promise07_ofNoCallIsCast() {
        for (int n = 0; n <= 10; n++) {
            int node = n;
            if (n != CALL) found(ALWAYS, "of kind " + n, CAST, () -> kinds(), x -> x.argument(node, 0, 1));
        }
        found(ALWAYS, "NONE of a return", CAST, () -> program(), x -> x.argument(6, 0, NONE));
    }

    static void promise07_aPlaceThatThereIsNotIsBeyond() {
        int[] places = {2, 3, 4, -1, NONE, MAX, MIN};
        for (int i : places) found(ALWAYS, "argument(5, " + i + ", 5)", BEYOND, () -> program(), x -> x.argument(5, i, 5));
        found(ALWAYS, "to empty it", BEYOND, () -> program(), x -> x.argument(5, 2, NONE));
    }

    static void promise07_withRoomForNoneEachPlaceIsBeyond() {
        found(ALWAYS, "the first", BEYOND, () -> kinds(), x -> x.argument(9, 0, 1));
    }

    static void promise07_badComesBeforeCastAndBeyond() {
        refused(ALWAYS, "no variable, no call", BAD, () -> program(), x -> x.argument(4, 0, 7));
        refused(ALWAYS, "no variable, beyond", BAD, () -> program(), x -> x.argument(5, 2, 7));
    }

    static void promise07_castComesBeforeBeyond() {
        found(ALWAYS, "both", CAST, () -> program(), x -> x.argument(4, -1, 5));
    }

    // ---------------------------------------------------------------- promise 8: copy

    /** MAIN: calls 6 (room for four: 5, 6, 7, 8) and 8 (room for two: 1, 2); procedure 1: call 10 (5, 6). */
    static ValidPaths copies() {
        ValidPaths x = with(4, 0, 4, 4, 2, 2);
        x.call(0, 1, NONE, 4);
        x.call(0, 2, NONE, 2);
        x.call(1, 2, NONE, 2);
        for (int i = 0; i < 4; i++) x.argument(6, i, 5 + i);
        for (int i = 0; i < 2; i++) x.argument(8, i, 1 + i);
        for (int i = 0; i < 2; i++) x.argument(10, i, 5 + i);
        x.edge(0, 6);
        x.edge(7, 8);
        x.edge(9, 1);
        x.edge(2, 10);
        x.edge(11, 3);
        x.client(UNSET);
        return x;
    }

    static void given(ValidPaths x, int call, int... want) {
        for (int i = 0; i < want.length; i++) due("given(" + call + ", " + i + ")", x.given(call, i), want[i]);
    }

    static void promise08_someComeToAnother() {
        ValidPaths x = copies();
        due("copy", x.copy(6, 1, 8, 0, 2), 1);
        given(x, 8, 6, 7);
        given(x, 6, 5, 6, 7, 8);
    }

    static void promise08_fromOneOnToOneOn() {
        ValidPaths x = copies();
        due("one to the last", x.copy(6, 3, 8, 1, 1), 1);
        given(x, 8, 1, 8);
        due("one to the first", x.copy(6, 2, 8, 0, 1), 1);
        given(x, 8, 7, 8);
    }

    static void promise08_anEmptyOneComesToo() {
        ValidPaths x = copies();
        x.argument(8, 1, NONE);
        due("copy", x.copy(8, 0, 6, 2, 2), 1);
        given(x, 6, 5, 6, 1, NONE);
    }

    static void promise08_asIfTakenAheadOntoItselfAhead() {
        ValidPaths x = copies();
        due("copy", x.copy(6, 0, 6, 1, 3), 1);
        given(x, 6, 5, 5, 6, 7);
    }

    static void promise08_asIfTakenAheadOntoItselfBack() {
        ValidPaths x = copies();
        due("copy", x.copy(6, 1, 6, 0, 3), 1);
        given(x, 6, 6, 7, 8, 8);
    }

    static void promise08_allOntoItself() {
        ValidPaths x = copies();
        due("copy", x.copy(6, 0, 6, 0, 4), 1);
        given(x, 6, 5, 6, 7, 8);
    }

    static void promise08_noneFromThePlaceBehindTheLast() {
        ValidPaths x = copies();
        due("from it", x.copy(6, 4, 8, 0, 0), 1);
        due("to it", x.copy(6, 0, 8, 2, 0), 1);
        due("both", x.copy(6, 4, 8, 2, 0), 1);
        given(x, 6, 5, 6, 7, 8);
        given(x, 8, 1, 2);
        due("with room for none", kinds().copy(9, 0, 9, 0, 0), 1);
    }

    static void promise08_noNodeIsBad() {
        int[] none = {-1, 12, 64, NONE, MAX, MIN};
        for (int n : none) {
            refused(ALWAYS, "from " + n, BAD, () -> copies(), x -> x.copy(n, 0, 6, 0, 1));
            refused(ALWAYS, "to " + n, BAD, () -> copies(), x -> x.copy(6, 0, n, 0, 1));
        }
    }

    static void promise08_ofUnlikeProceduresIsBad() {
        refused(ALWAYS, "to the other's", BAD, () -> copies(), x -> x.copy(6, 0, 10, 0, 1));
        refused(ALWAYS, "from the other's", BAD, () -> copies(), x -> x.copy(10, 0, 6, 0, 1));
        refused(ALWAYS, "though none come", BAD, () -> copies(), x -> x.copy(8, 0, 10, 0, 0));
    }

    static void promise08_callsOfUnlikeProceduresInOneAreFine() {
        ValidPaths x = with(1, 0, 1, 1);
        int a = x.call(0, 0, NONE, 1), b = x.call(0, 1, NONE, 1);
        x.argument(a, 0, 5);
        due("copy", x.copy(a, 0, b, 0, 1), 1);
        due("given", x.given(b, 0), 5);
    }

    static void promise08_eitherBeingNoCallIsCast() {
        for (int n = 0; n <= 10; n++) {
            int node = n;
            if (n == CALL) continue;
            found(ALWAYS, "from kind " + n, CAST, () -> kinds(), x -> x.copy(node, 0, 9, 0, 0));
            found(ALWAYS, "to kind " + n, CAST, () -> kinds(), x -> x.copy(9, 0, node, 0, 0));
            found(ALWAYS, "both of kind " + n, CAST, () -> kinds(), x -> x.copy(node, 0, node, 0, 0));
        }
    }

    static void promise08_notSoManyFromThereOnIsBeyond() {
        int[][] beyond = {{0, 0, 5}, {3, 0, 2}, {2, 0, 3}, {4, 0, 1}, {5, 0, 1}, {0, 0, 3}, {0, 1, 2}, {0, 2, 1}, {0, 3, 1}, {1, 1, MAX},
            {MAX, 0, 1}, {0, MAX, 1}, {MAX, 0, MAX}, {0, MAX, MAX}};
        for (int[] b : beyond) {
            found(ALWAYS, "copy(6, " + b[0] + ", 8, " + b[1] + ", " + b[2] + ")", BEYOND, () -> copies(), x -> x.copy(6, b[0], 8, b[1], b[2]));
        }
    }

    static void promise08_noneBehindThePlaceBehindTheLastIsBeyond() {
        found(ALWAYS, "from it", BEYOND, () -> copies(), x -> x.copy(6, 5, 8, 0, 0));
        found(ALWAYS, "to it", BEYOND, () -> copies(), x -> x.copy(6, 0, 8, 3, 0));
        found(ALWAYS, "with room for none", BEYOND, () -> kinds(), x -> x.copy(9, 0, 9, 1, 0));
    }

    static void promise08_aPlaceBelowNoneIsBeyond() {
        int[] below = {-1, NONE, MIN};
        for (int i : below) {
            found(ALWAYS, "from " + i, BEYOND, () -> copies(), x -> x.copy(6, i, 8, 0, 1));
            found(ALWAYS, "to " + i, BEYOND, () -> copies(), x -> x.copy(6, 0, 8, i, 1));
            found(ALWAYS, "none from " + i, BEYOND, () -> copies(), x -> x.copy(6, i, 8, 0, 0));
            found(ALWAYS, "none to " + i, BEYOND, () -> copies(), x -> x.copy(6, 0, 8, i, 0));
        }
    }

    static void promise08_fewerThanNoneIsBeyond() {
        int[] below = {-1, NONE, MIN};
        for (int n : below) {
            found(ALWAYS, n + " from the first", BEYOND, () -> copies(), x -> x.copy(6, 0, 8, 0, n));
            found(ALWAYS, n + " from within", BEYOND, () -> copies(), x -> x.copy(6, 2, 8, 2, n));
        }
        found(ALWAYS, "a place and n below none", BEYOND, () -> copies(), x -> x.copy(6, MIN, 8, MIN, MIN));
    }

    static void promise08_allOrNone() {
        ValidPaths x = copies();
        due("one too many for there", x.copy(6, 0, 8, 0, 3), FINDING);
        given(x, 8, 1, 2);
        due("one too many from here", x.copy(8, 0, 6, 0, 3), FINDING);
        given(x, 6, 5, 6, 7, 8);
    }

    static void promise08_badComesBeforeCast() {
        refused(ALWAYS, "no call, no node", BAD, () -> copies(), x -> x.copy(0, 0, 12, 0, 0));
        refused(ALWAYS, "no node, no call", BAD, () -> copies(), x -> x.copy(12, 0, 0, 0, 0));
        refused(ALWAYS, "no calls, of unlike procedures", BAD, () -> copies(), x -> x.copy(0, 0, 2, 0, 0));
    }

    static void promise08_badComesBeforeBeyond() {
        refused(ALWAYS, "no node", BAD, () -> copies(), x -> x.copy(6, -1, 12, 0, 0));
        refused(ALWAYS, "unlike procedures", BAD, () -> copies(), x -> x.copy(6, 0, 10, 0, 5));
    }

    static void promise08_castComesBeforeBeyond() {
        found(ALWAYS, "from no call", CAST, () -> copies(), x -> x.copy(0, -1, 6, 0, 9));
        found(ALWAYS, "to no call", CAST, () -> copies(), x -> x.copy(6, -1, 7, 0, 9));
    }

    // ---------------------------------------------------------------- promise 9: edge

    static void promise09_theyAreNumberedFromNoneOn() {
        ValidPaths x = with(0, 0, 0, 0);
        due("first", x.edge(0, 1), 0);
        due("second", x.edge(2, 3), 1);
        due("edges", x.count(2), 2);
    }

    static void promise09_fromAnyButLeavesAndCalls() {
        for (int n = 0; n <= 10; n++) {
            int node = n;
            if (n == LEAVE || n == CALL) refused(ALWAYS, "from kind " + n, BAD, () -> kinds(), x -> x.edge(node, SKIP));
            else due("from kind " + n, kinds().edge(n, SKIP), 0);
        }
    }

    static void promise09_toAnyButEntersAndReturns() {
        for (int n = 0; n <= 10; n++) {
            int node = n;
            if (n == ENTER || n == RETURN) refused(ALWAYS, "to kind " + n, BAD, () -> kinds(), x -> x.edge(SKIP, node));
            else due("to kind " + n, kinds().edge(SKIP, n), 0);
        }
    }

    static void promise09_notFromACallToItsOwnReturn() {
        refused(ALWAYS, "edge(5, 6)", BAD, () -> program(), x -> x.edge(5, 6));
    }

    static void promise09_aNodeMayLeadToItself() {
        int[] may = {SKIP, SET, COPY, JOIN, SOURCE, CLEAN, SINK};
        for (int n : may) due("edge(" + n + ", " + n + ")", kinds().edge(n, n), 0);
        int[] mayNot = {ENTER, LEAVE, CALL, RETURN};
        for (int n : mayNot) refused(ALWAYS, "edge(" + n + ", " + n + ")", BAD, () -> kinds(), x -> x.edge(n, n));
    }

    static void promise09_toANodeOfAnotherProcedureIsBad() {
        refused(ALWAYS, "from MAIN", BAD, () -> program(), x -> x.edge(4, 8));
        refused(ALWAYS, "to MAIN", BAD, () -> program(), x -> x.edge(8, 4));
        refused(ALWAYS, "to a leave", BAD, () -> program(), x -> x.edge(0, 3));
    }

    static void promise09_noNodeIsBad() {
        int[] none = {-1, 10, 64, NONE, MAX, MIN};
        for (int n : none) {
            refused(ALWAYS, "from " + n, BAD, () -> program(), x -> x.edge(n, 4));
            refused(ALWAYS, "to " + n, BAD, () -> program(), x -> x.edge(4, n));
        }
    }

    static void promise09_ofOneThatIsThereThat() {
        int[][] there = {{0, 4}, {4, 5}, {6, 7}, {7, 9}, {9, 1}, {2, 8}, {8, 3}};
        for (int i = 0; i < there.length; i++) {
            int[] e = there[i];
            leavesAll(ALWAYS, "edge(" + e[0] + ", " + e[1] + ")", i, () -> program(), x -> x.edge(e[0], e[1]));
        }
    }

    static void promise09_theOtherWayRoundIsAnother() {
        ValidPaths x = with(0, 0);
        x.node(0, SKIP, 0, 0, 0);
        x.node(0, SKIP, 0, 0, 0);
        due("edge(2, 3)", x.edge(2, 3), 0);
        due("edge(3, 2)", x.edge(3, 2), 1);
        due("edge(2, 3)", x.edge(2, 3), 0);
        due("edges", x.count(2), 2);
    }

    static void promise09_aHundredAndTwentyAtMost() {
        due("the 120th", edges(119).edge(0, 1), 119);
        refused(ALWAYS, "the 121st", FULL, () -> edges(120), x -> x.edge(0, 1));
    }

    static void promise09_ofOneThatIsThereThatThoughFull() {
        leavesAll(ALWAYS, "the first", 0, () -> edges(120), x -> x.edge(2, 2));
        leavesAll(ALWAYS, "the last", 119, () -> edges(120), x -> x.edge(11, 13));
    }

    static void promise09_badComesBeforeFull() {
        refused(ALWAYS, "from a leave", BAD, () -> edges(120), x -> x.edge(1, 2));
        refused(ALWAYS, "to an enter", BAD, () -> edges(120), x -> x.edge(2, 0));
        refused(ALWAYS, "no node", BAD, () -> edges(120), x -> x.edge(0, 14));
    }

    // ---------------------------------------------------------------- promise 10: told

    static void promise10_ofEachKindWhatItHas() {
        ValidPaths x = with(3, 0, 1, 1);
        int[][] nodes = {{SKIP, 0, 0, 0}, {SET, 5, 6, 7}, {COPY, 6, 7, 5}, {JOIN, 7, 1, 5}, {SOURCE, 1, 2, 3}, {CLEAN, 2, 2, 2}, {SINK, 4, 3, 2}};
        for (int[] n : nodes) x.node(0, n[0], n[1], n[2], n[3]);
        x.call(0, 1, 7, 1);
        x.call(1, 0, NONE, 0);
        int[][] want = {
            {0, 0, NONE, NONE, NONE, NONE, NONE, NONE, NONE, NONE}, {0, 1, NONE, NONE, NONE, NONE, NONE, NONE, NONE, NONE},
            {1, 0, NONE, NONE, NONE, NONE, NONE, NONE, NONE, NONE}, {1, 1, NONE, NONE, NONE, NONE, NONE, NONE, NONE, NONE},
            {0, 2, NONE, NONE, NONE, NONE, NONE, NONE, NONE, NONE}, {0, 3, 5, NONE, NONE, NONE, NONE, NONE, NONE, NONE},
            {0, 4, 6, 7, NONE, NONE, NONE, NONE, NONE, NONE}, {0, 5, 7, 1, 5, NONE, NONE, NONE, NONE, NONE},
            {0, 6, 1, NONE, NONE, NONE, NONE, NONE, NONE, NONE}, {0, 7, 2, NONE, NONE, NONE, NONE, NONE, NONE, NONE},
            {0, 8, 4, NONE, NONE, NONE, NONE, NONE, NONE, NONE}, {0, 9, NONE, NONE, NONE, 1, 7, 12, 1, NONE},
            {0, 10, NONE, NONE, NONE, NONE, NONE, NONE, NONE, 11}, {1, 9, NONE, NONE, NONE, 0, NONE, 14, 0, NONE},
            {1, 10, NONE, NONE, NONE, NONE, NONE, NONE, NONE, 13}};
        for (int n = 0; n < want.length; n++) {
            for (int what = 0; what < 10; what++) due("told(" + n + ", " + what + ")", x.told(n, what), want[n][what]);
        }
    }

    static void promise10_whatThereIsNotIsBad() {
        int[] whats = {-1, 10, 11, NONE, MAX, MIN};
        for (int what : whats) refused(ALWAYS, "told(5, " + what + ")", BAD, () -> program(), x -> x.told(5, what));
    }

    static void promise10_noNodeIsBad() {
        int[] none = {-1, 10, 64, NONE, MAX, MIN};
        for (int n : none) refused(ALWAYS, "told(" + n + ", 0)", BAD, () -> program(), x -> x.told(n, 0));
        due("the 64th", nodes(64).told(63, 1), SKIP);
        due("the 65th", nodes(64).told(64, 1), BAD);
    }

    // ---------------------------------------------------------------- promise 11: given

    static void promise11_anArgumentOrNone() {
        ValidPaths x = copies();
        x.argument(8, 0, NONE);
        given(x, 6, 5, 6, 7, 8);
        given(x, 8, NONE, 2);
        given(x, 10, 5, 6);
    }

    static void promise11_noNodeIsBad() {
        int[] none = {-1, 10, 64, NONE, MAX, MIN};
        for (int n : none) refused(ALWAYS, "given(" + n + ", 0)", BAD, () -> program(), x -> x.given(n, 0));
    }

    static void promise11_ofNoCallIsCast() {
        for (int n = 0; n <= 10; n++) {
            int node = n;
            if (n != CALL) found(ALWAYS, "of kind " + n, CAST, () -> kinds(), x -> x.given(node, 0));
        }
    }

    static void promise11_aPlaceThatThereIsNotIsBeyond() {
        int[] places = {2, 3, 4, -1, NONE, MAX, MIN};
        for (int i : places) found(ALWAYS, "given(5, " + i + ")", BEYOND, () -> program(), x -> x.given(5, i));
        found(ALWAYS, "with room for none", BEYOND, () -> kinds(), x -> x.given(9, 0));
        found(ALWAYS, "with room for four", BEYOND, () -> copies(), x -> x.given(6, 4));
    }

    static void promise11_badComesBeforeCastAndBeyond() {
        refused(ALWAYS, "no node, beyond", BAD, () -> program(), x -> x.given(10, -1));
    }

    static void promise11_castComesBeforeBeyond() {
        found(ALWAYS, "both", CAST, () -> program(), x -> x.given(6, -1));
    }

    // ---------------------------------------------------------------- promise 12: is

    static void promise12_eachKindIsItself() {
        ValidPaths x = kinds();
        for (int kind = 0; kind <= 10; kind++) due("is(" + kind + ", " + kind + ")", x.is(kind, kind), 1);
    }

    static void promise12_aCopyASourceACleanAreSetsToo() {
        ValidPaths x = kinds();
        int[] sets = {COPY, SOURCE, CLEAN};
        for (int kind : sets) due("is(" + kind + ", SET)", x.is(kind, SET), 1);
    }

    static void promise12_aJoinIsACopyTooAndSoASet() {
        ValidPaths x = kinds();
        due("a COPY", x.is(JOIN, COPY), 1);
        due("a SET", x.is(JOIN, SET), 1);
    }

    static void promise12_noOtherIsUnderAnother() {
        ValidPaths x = kinds();
        int[] under = {0, 0, 0, 0, bits(SET), bits(SET, COPY), bits(SET), bits(SET), 0, 0, 0};
        for (int kind = 0; kind <= 10; kind++) {
            for (int k = 0; k <= 10; k++) {
                if (k != kind && (under[kind] >> k & 1) == 0) due("is(" + kind + ", " + k + ")", x.is(kind, k), 0);
            }
        }
    }

    static void promise12_noKindIsBad() {
        int[] none = {-1, 11, 12, NONE, MAX, MIN};
        for (int kind : none) refused(ALWAYS, "is(9, " + kind + ")", BAD, () -> program(), x -> x.is(9, kind));
    }

    static void promise12_noNodeIsBad() {
        int[] none = {-1, 10, 64, NONE, MAX, MIN};
        for (int n : none) refused(ALWAYS, "is(" + n + ", SKIP)", BAD, () -> program(), x -> x.is(n, SKIP));
    }
}
