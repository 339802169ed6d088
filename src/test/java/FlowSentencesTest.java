/** Promises 13 to 18 and the terms they are read with: a test for each sentence that names a boundary or a refusal. */
public final class FlowSentencesTest extends Checks {
    public static void main(String[] args) throws IllegalAccessException {
        runAll(FlowSentencesTest.class, 13, 18);
    }

    static ValidPaths program() {
        return whole(OWN);
    }

    static final int[] NO_NODES = {-1, 10, 64, NONE, MAX, MIN};
    static final int[] NO_PARTS = {-1, 3, 4, NONE, MAX, MIN};
    static final int[] NO_BITS = {-1, 8192, 8193, NONE, MAX, MIN};

    /** Each fact goes to itself alone but for these: a fact, then its bits. */
    static void goesAs(String what, ValidPaths x, int node, int part, int... others) {
        int[] want = new int[13];
        for (int f = 0; f <= 12; f++) want[f] = 1 << f;
        for (int i = 0; i < others.length; i += 2) want[others[i]] = others[i + 1];
        for (int f = 0; f <= 12; f++) due(what + ", goes(" + node + ", " + part + ", " + f + ")", x.goes(node, part, f), want[f]);
    }

    /** Likewise, but the locals (or the globals) that are not among these go to none. */
    static void goesWithout(String what, ValidPaths x, int node, int part, int first, int last, int... others) {
        int[] all = new int[2 * (last - first + 1) + others.length];
        for (int f = first; f <= last; f++) all[2 * (f - first)] = f;
        System.arraycopy(others, 0, all, all.length - others.length, others.length);
        goesAs(what, x, node, part, all);
    }

    // ---------------------------------------------------------------- promise 13: client

    static void promise13_itAnswersWhatItWas() {
        ValidPaths x = new ValidPaths();
        int[] clients = {OWN, UNSET, TAINT, UNSET, UNSET, OWN, OWN, TAINT};
        int was = TAINT;
        for (int c : clients) {
            due("client(" + c + ")", x.client(c), was);
            was = c;
        }
    }

    static void promise13_noClientIsBad() {
        int[] none = {-1, 3, 4, NONE, MAX, MIN};
        for (int made = TAINT; made <= OWN; made++) {
            int client = made;
            for (int c : none) refused(ALWAYS, "client(" + c + ")", BAD, () -> whole(client), x -> x.client(c));
        }
    }

    // ---------------------------------------------------------------- promise 14: flow

    static void promise14_aFactGoesToTheseAlone() {
        ValidPaths x = kinds();
        x.client(OWN);
        due("flow", x.flow(SKIP, WITHIN, 5, bits(6, 7)), 1);
        goesAs("told", x, SKIP, WITHIN, 5, bits(6, 7));
        goesAs("of another node", x, SET, WITHIN);
    }

    static void promise14_theFirstAndTheLastFactAreFine() {
        ValidPaths x = kinds();
        x.client(OWN);
        due("of 1", x.flow(SKIP, WITHIN, 1, bits(12)), 1);
        due("of 12", x.flow(SKIP, WITHIN, 12, bits(1)), 1);
        goesAs("told", x, SKIP, WITHIN, 1, bits(12), 12, bits(1));
    }

    static void promise14_zeroIsNoSuchFact() {
        refused(ALWAYS, "flow(4, 0, 0, 1)", BAD, () -> program(), x -> x.flow(4, WITHIN, 0, 1));
    }

    static void promise14_noFactIsBad() {
        int[] none = {-1, 13, 14, NONE, MAX, MIN};
        for (int f : none) refused(ALWAYS, "of " + f, BAD, () -> program(), x -> x.flow(5, IN, f, 1));
    }

    static void promise14_noneToAllBitsAreFine() {
        ValidPaths x = kinds();
        x.client(OWN);
        int[] bits = {0, 1, 4096, 8190, 8191};
        for (int b : bits) {
            due("flow to " + b, x.flow(SKIP, WITHIN, 5, b), 1);
            due("goes", x.goes(SKIP, WITHIN, 5), b);
        }
    }

    static void promise14_otherBitsAreBad() {
        for (int b : NO_BITS) refused(ALWAYS, "to " + b, BAD, () -> program(), x -> x.flow(4, WITHIN, 5, b));
    }

    static void promise14_noNodeIsBad() {
        for (int n : NO_NODES) refused(ALWAYS, "of node " + n, BAD, () -> program(), x -> x.flow(n, WITHIN, 5, 1));
    }

    static void promise14_noPartIsBad() {
        for (int p : NO_PARTS) {
            refused(ALWAYS, "part " + p + " of a call", BAD, () -> program(), x -> x.flow(5, p, 5, 1));
            refused(ALWAYS, "part " + p + " of no call", BAD, () -> program(), x -> x.flow(4, p, 5, 1));
        }
    }

    static void promise14_eachNodeHasItsOwnPart() {
        for (int n = 0; n <= 10; n++) {
            ValidPaths x = kinds();
            x.client(OWN);
            due("of kind " + n, x.flow(n, WITHIN, 1, bits(2)), 1);
            due("goes", x.goes(n, WITHIN, 1), bits(2));
        }
        ValidPaths x = nodes(64);
        x.client(OWN);
        due("of the last", x.flow(63, WITHIN, 12, bits(2)), 1);
        due("goes", x.goes(63, WITHIN, 12), bits(2));
    }

    static void promise14_aCallHasThreeParts() {
        ValidPaths x = kinds();
        x.client(OWN);
        for (int part = 0; part < 3; part++) due("part " + part, x.flow(CALL, part, 5, bits(6 + part)), 1);
        for (int part = 0; part < 3; part++) goesAs("told", x, CALL, part, 5, bits(6 + part));
        goesAs("its return", x, RETURN, WITHIN);
    }

    static void promise14_inAndBackOfNoCallAreCast() {
        for (int n = 0; n <= 10; n++) {
            int node = n;
            for (int part = IN; part <= BACK && n != CALL; part++) {
                int p = part;
                found(ALWAYS, "part " + part + " of kind " + n, CAST, () -> kinds(), x -> x.flow(node, p, 1, 2));
            }
        }
    }

    static void promise14_badComesBeforeCast() {
        refused(ALWAYS, "bits", BAD, () -> program(), x -> x.flow(4, IN, 5, 8192));
        refused(ALWAYS, "fact", BAD, () -> program(), x -> x.flow(4, BACK, 13, 1));
        refused(ALWAYS, "ZERO", BAD, () -> program(), x -> x.flow(4, BACK, 0, 1));
    }

    static void promise14_theLatterRowIsTheOne() {
        ValidPaths x = kinds();
        x.client(OWN);
        x.flow(SKIP, WITHIN, 5, bits(6));
        x.flow(SKIP, WITHIN, 5, bits(7));
        goesAs("told over", x, SKIP, WITHIN, 5, bits(7));
    }

    static void promise14_rowsMayBeToldUnderAnyClient() {
        for (int c = TAINT; c <= OWN; c++) {
            ValidPaths x = kinds();
            x.client(c);
            due("told", x.flow(SKIP, WITHIN, 5, bits(6)), 1);
            x.client(OWN);
            goesAs("of OWN", x, SKIP, WITHIN, 5, bits(6));
        }
    }

    static void promise14_rowsAreOfOwnAlone() {
        ValidPaths x = kinds();
        x.flow(SKIP, WITHIN, 5, bits(6));
        goesAs("of TAINT", x, SKIP, WITHIN);
        x.client(UNSET);
        goesAs("of UNSET", x, SKIP, WITHIN);
    }

    // ---------------------------------------------------------------- promise 15: zero

    static void promise15_toTheseBesidesZero() {
        ValidPaths x = kinds();
        x.client(OWN);
        int[] bits = {0, 1, 2, 4096, 8190, 8191};
        for (int b : bits) {
            due("zero to " + b, x.zero(SKIP, WITHIN, b), 1);
            goesAs("told", x, SKIP, WITHIN, 0, b | 1);
        }
    }

    static void promise15_ofEachPart() {
        ValidPaths x = kinds();
        x.client(OWN);
        for (int part = 0; part < 3; part++) due("part " + part, x.zero(CALL, part, bits(6 + part)), 1);
        for (int part = 0; part < 3; part++) goesAs("told", x, CALL, part, 0, bits(0, 6 + part));
    }

    static void promise15_otherBitsAreBad() {
        for (int b : NO_BITS) refused(ALWAYS, "to " + b, BAD, () -> program(), x -> x.zero(4, WITHIN, b));
    }

    static void promise15_noNodeIsBad() {
        for (int n : NO_NODES) refused(ALWAYS, "of node " + n, BAD, () -> program(), x -> x.zero(n, WITHIN, 1));
    }

    static void promise15_noPartIsBad() {
        for (int p : NO_PARTS) {
            refused(ALWAYS, "part " + p + " of a call", BAD, () -> program(), x -> x.zero(5, p, 1));
            refused(ALWAYS, "part " + p + " of no call", BAD, () -> program(), x -> x.zero(4, p, 1));
        }
    }

    static void promise15_inAndBackOfNoCallAreCast() {
        for (int n = 0; n <= 10; n++) {
            int node = n;
            for (int part = IN; part <= BACK && n != CALL; part++) {
                int p = part;
                found(ALWAYS, "part " + part + " of kind " + n, CAST, () -> kinds(), x -> x.zero(node, p, 2));
            }
        }
    }

    static void promise15_badComesBeforeCast() {
        refused(ALWAYS, "too many bits", BAD, () -> program(), x -> x.zero(4, IN, 8192));
        refused(ALWAYS, "bits below none", BAD, () -> program(), x -> x.zero(4, BACK, -1));
    }

    static void promise15_itIsOfOwnAlone() {
        ValidPaths x = kinds();
        x.zero(SKIP, WITHIN, bits(6));
        goesAs("of TAINT", x, SKIP, WITHIN);
        x.client(UNSET);
        goesAs("of UNSET", x, SKIP, WITHIN);
    }

    // ---------------------------------------------------------------- promise 16: forget

    static void promise16_allRowsOfThePartAreGone() {
        ValidPaths x = kinds();
        x.client(OWN);
        x.zero(CALL, IN, bits(3));
        for (int f = 1; f <= 12; f++) x.flow(CALL, IN, f, 0);
        due("forget", x.forget(CALL, IN), 1);
        goesAs("itself alone", x, CALL, IN);
    }

    static void promise16_otherPartsAndNodesKeepTheirs() {
        ValidPaths x = kinds();
        x.client(OWN);
        for (int part = 0; part < 3; part++) x.flow(CALL, part, 5, 0);
        x.flow(SINK, WITHIN, 12, 0);
        x.zero(RETURN, WITHIN, bits(1));
        x.forget(CALL, IN);
        goesAs("gone", x, CALL, IN);
        goesAs("ACROSS", x, CALL, WITHIN, 5, 0);
        goesAs("BACK", x, CALL, BACK, 5, 0);
        goesAs("ahead of it", x, SINK, WITHIN, 12, 0);
        goesAs("behind it", x, RETURN, WITHIN, 0, bits(0, 1));
    }

    static void promise16_theRowOfZeroBehindThePartStays() {
        ValidPaths x = kinds();
        x.client(OWN);
        int[] nodes = {SKIP, SET, CALL, CALL, CALL, RETURN}, parts = {WITHIN, WITHIN, WITHIN, IN, BACK, WITHIN};
        for (int i = 0; i < nodes.length; i++) {
            x.zero(nodes[i], parts[i], bits(3));
            x.flow(nodes[i], parts[i], 12, bits(4));
        }
        int[] gone = {0, 2, 4};
        for (int i : gone) due("forget", x.forget(nodes[i], parts[i]), 1);
        for (int i : gone) {
            goesAs("gone", x, nodes[i], parts[i]);
            goesAs("behind it", x, nodes[i + 1], parts[i + 1], 0, bits(0, 3), 12, bits(4));
        }
    }

    static void promise16_rowsBehindThePartAreNoneOfIts() {
        Made behind = () -> {
            ValidPaths x = kinds();
            x.zero(SET, WITHIN, bits(3));
            x.zero(CALL, IN, bits(3));
            x.zero(RETURN, WITHIN, bits(3));
            return x;
        };
        found(ALWAYS, "of the node ahead", NOTHING, behind, x -> x.forget(SKIP, WITHIN));
        found(ALWAYS, "ACROSS", NOTHING, behind, x -> x.forget(CALL, WITHIN));
        found(ALWAYS, "BACK", NOTHING, behind, x -> x.forget(CALL, BACK));
    }

    static void promise16_whereNoneWasToldIsNothing() {
        found(ALWAYS, "a node's", NOTHING, () -> program(), x -> x.forget(0, WITHIN));
        found(ALWAYS, "ACROSS", NOTHING, () -> program(), x -> x.forget(5, WITHIN));
        for (int part = 0; part < 3; part++) {
            int p = part;
            found(ALWAYS, "part " + part, NOTHING, () -> kinds(), x -> x.forget(CALL, p));
        }
    }

    static void promise16_whatIsForgottenIsNothing() {
        Made forgotten = () -> {
            ValidPaths x = program();
            x.forget(4, WITHIN);
            return x;
        };
        found(ALWAYS, "again", NOTHING, forgotten, x -> x.forget(4, WITHIN));
    }

    static void promise16_aRowThatGoesToNoneIsARow() {
        ValidPaths x = kinds();
        x.flow(SKIP, WITHIN, 12, 0);
        due("forget", x.forget(SKIP, WITHIN), 1);
    }

    static void promise16_aRowThatSaysWhatIsSoIsARow() {
        ValidPaths x = kinds();
        x.flow(SKIP, WITHIN, 1, bits(1));
        due("of a fact to itself", x.forget(SKIP, WITHIN), 1);
        x.zero(SKIP, WITHIN, 0);
        due("of ZERO to ZERO alone", x.forget(SKIP, WITHIN), 1);
        due("then none", x.forget(SKIP, WITHIN), FINDING);
    }

    static void promise16_underAnyClient() {
        for (int c = TAINT; c <= OWN; c++) {
            ValidPaths x = kinds();
            x.flow(SKIP, WITHIN, 5, 0);
            x.client(c);
            due("forget", x.forget(SKIP, WITHIN), 1);
            x.client(OWN);
            goesAs("gone", x, SKIP, WITHIN);
        }
    }

    static void promise16_noNodeIsBad() {
        for (int n : NO_NODES) refused(ALWAYS, "of node " + n, BAD, () -> program(), x -> x.forget(n, WITHIN));
    }

    static void promise16_noPartIsBad() {
        for (int p : NO_PARTS) {
            refused(ALWAYS, "part " + p + " of a call", BAD, () -> program(), x -> x.forget(5, p));
            refused(ALWAYS, "part " + p + " of no call", BAD, () -> program(), x -> x.forget(4, p));
        }
    }

    static void promise16_inAndBackOfNoCallAreCastAheadOfNothing() {
        for (int n = 0; n <= 10; n++) {
            int node = n;
            for (int part = IN; part <= BACK && n != CALL; part++) {
                int p = part;
                found(ALWAYS, "part " + part + " of kind " + n, CAST, () -> kinds(), x -> x.forget(node, p));
            }
        }
    }

    // ---------------------------------------------------------------- promise 17: begin

    static void promise17_itAnswersWhatTheyWere() {
        ValidPaths x = new ValidPaths();
        int[] bits = {bits(5, 12), 8191, 8190, bits(12), 0, 0};
        int were = 0;
        for (int b : bits) {
            due("begin(" + b + ")", x.begin(b), were);
            were = b;
        }
    }

    static void promise17_otherBitsAreBad() {
        for (int b : NO_BITS) refused(ALWAYS, "begin(" + b + ")", BAD, () -> program(), x -> x.begin(b));
    }

    static void promise17_theseBesidesZeroAreAtTheBeginningOfOwn() {
        int[] bits = {0, 1, bits(7), bits(1, 12), 8190, 8191};
        for (int b : bits) {
            ValidPaths x = with(0, 0, 0, 0);
            x.client(OWN);
            x.begin(b);
            x.solve(ALL);
            due("at the enter of MAIN", x.holds(0), b | 1);
            due("nowhere else", x.holds(2), 0);
        }
    }

    static void promise17_theyAreOfOwnAlone() {
        ValidPaths x = with(2, 0);
        x.begin(8191);
        x.solve(ALL);
        due("of TAINT", x.holds(0), 1);
        x.client(UNSET);
        x.solve(ALL);
        due("of UNSET", x.holds(0), bits(0, 1, 2, 3, 4, 5, 6));
    }

    static void promise17_ofUnsetAllGlobalsAndMainsLocals() {
        for (int locals = 0; locals <= 8; locals++) {
            ValidPaths x = with(locals, Math.min(locals, 4), 8, 0);
            x.client(UNSET);
            x.solve(ALL);
            due("with " + locals + " locals", x.holds(0), (1 << (5 + locals)) - 1);
        }
    }

    static void promise17_ofTaintZeroAlone() {
        ValidPaths x = with(8, 4);
        x.solve(ALL);
        due("at the enter", x.holds(0), 1);
    }

    // ---------------------------------------------------------------- promise 18: goes

    /** MAIN with locals 5, 6, 7 and one node, 2. */
    static ValidPaths one(int client, int kind, int a, int b, int c) {
        ValidPaths x = with(3, 0);
        x.client(client);
        x.node(0, kind, a, b, c);
        return x;
    }

    /** Of TAINT and UNSET alike. */
    static void bothGoAs(int kind, int a, int b, int c, int... others) {
        for (int client = TAINT; client <= UNSET; client++) {
            goesAs("client " + client + ", kind " + kind, one(client, kind, a, b, c), 2, WITHIN, others);
        }
    }

    static void promise18_whatIsNotToldGoesToItselfAlone() {
        bothGoAs(SKIP, 0, 0, 0);
        bothGoAs(SINK, 5, 0, 0);
        for (int client = TAINT; client <= UNSET; client++) {
            ValidPaths x = kinds();
            x.client(client);
            int[] others = {ENTER, LEAVE, SKIP, SINK, RETURN};
            for (int n : others) goesAs("kind " + n, x, n, WITHIN);
        }
    }

    static void promise18_aSetGoesToNone() {
        bothGoAs(SET, 5, 0, 0, 5, 0);
        bothGoAs(SET, 1, 0, 0, 1, 0);
    }

    static void promise18_aCopyGoesToXBesides() {
        bothGoAs(COPY, 5, 6, 0, 5, 0, 6, bits(5, 6));
        bothGoAs(COPY, 4, 7, 0, 4, 0, 7, bits(4, 7));
        bothGoAs(COPY, 7, 1, 0, 7, 0, 1, bits(1, 7));
    }

    static void promise18_aCopyOfItselfIsAsSkip() {
        bothGoAs(COPY, 5, 5, 0);
        bothGoAs(COPY, 1, 1, 0);
    }

    static void promise18_aJoinGoesFromBoth() {
        bothGoAs(JOIN, 5, 6, 7, 5, 0, 6, bits(5, 6), 7, bits(5, 7));
        bothGoAs(JOIN, 5, 7, 6, 5, 0, 6, bits(5, 6), 7, bits(5, 7));
    }

    static void promise18_aJoinWithZBeingXGoesToX() {
        bothGoAs(JOIN, 5, 6, 5, 6, bits(5, 6));
    }

    static void promise18_aJoinWithYBeingXIsAsSkipThenZ() {
        bothGoAs(JOIN, 5, 5, 6, 6, bits(5, 6));
    }

    static void promise18_aJoinOfOneTwiceIsAsCopy() {
        bothGoAs(JOIN, 5, 6, 6, 5, 0, 6, bits(5, 6));
        bothGoAs(JOIN, 5, 5, 5);
    }

    static void promise18_aSourceTaints() {
        goesAs("TAINT", one(TAINT, SOURCE, 5, 0, 0), 2, WITHIN, 5, 0, 0, bits(0, 5));
        goesAs("a global", one(TAINT, SOURCE, 4, 0, 0), 2, WITHIN, 4, 0, 0, bits(0, 4));
    }

    static void promise18_aSourceSets() {
        goesAs("UNSET", one(UNSET, SOURCE, 5, 0, 0), 2, WITHIN, 5, 0);
    }

    static void promise18_aCleanIsAsSet() {
        bothGoAs(CLEAN, 5, 0, 0, 5, 0);
    }

    /** MAIN (locals 5 .. 8) calls procedure 1 (locals 5 .. 9, two parameters) by 4 with a result and room for n. */
    static ValidPaths calling(int client, int result, int n, int... arguments) {
        ValidPaths x = with(4, 0, 5, 2);
        x.client(client);
        x.call(0, 1, result, n);
        for (int i = 0; i < arguments.length; i++) x.argument(4, i, arguments[i]);
        return x;
    }

    static void promise18_acrossLocalsGoToThemselvesGlobalsToNone() {
        for (int c = TAINT; c <= UNSET; c++) goesWithout("client " + c, calling(c, NONE, 2, 5, 1), 4, WITHIN, 1, 4);
    }

    static void promise18_acrossTheResultGoesToNone() {
        for (int c = TAINT; c <= UNSET; c++) {
            goesWithout("a local", calling(c, 6, 2, 6, 1), 4, WITHIN, 1, 4, 6, 0);
            goesWithout("a global", calling(c, 2, 2, 6, 1), 4, WITHIN, 1, 4);
        }
    }

    static void promise18_inGlobalsGoToThemselvesLocalsToNone() {
        goesWithout("TAINT", calling(TAINT, 6, 2), 4, IN, 5, 12);
        goesWithout("a result counts not", calling(TAINT, 2, 2), 4, IN, 5, 12);
    }

    static void promise18_inAnArgumentGoesToItsParameterBesides() {
        goesWithout("a local, a global", calling(TAINT, NONE, 2, 8, 1), 4, IN, 5, 12, 8, bits(5), 1, bits(1, 6));
        goesWithout("one twice", calling(TAINT, NONE, 2, 7, 7), 4, IN, 5, 12, 7, bits(5, 6));
        goesWithout("a global twice", calling(TAINT, NONE, 2, 4, 4), 4, IN, 5, 12, 4, bits(4, 5, 6));
    }

    static void promise18_inOfUnsetZeroGoesToLocalsThatAreNoParameters() {
        goesWithout("UNSET", calling(UNSET, NONE, 2, 8, 1), 4, IN, 5, 12, 8, bits(5), 1, bits(1, 6), 0, bits(0, 7, 8, 9));
        ValidPaths x = with(8, 0, 2, 2, 8, 0, 0, 0);
        x.client(UNSET);
        int parametersAlone = x.call(0, 1, NONE, 2), localsAlone = x.call(0, 2, NONE, 0), none = x.call(0, 3, NONE, 0);
        due("parameters alone", x.goes(parametersAlone, IN, 0), 1);
        due("locals alone", x.goes(localsAlone, IN, 0), bits(0, 5, 6, 7, 8, 9, 10, 11, 12));
        due("none", x.goes(none, IN, 0), 1);
    }

    static void promise18_backGlobalsGoToThemselvesLocalsToNone() {
        goesWithout("TAINT", calling(TAINT, NONE, 2), 4, BACK, 5, 12);
        goesWithout("UNSET", calling(UNSET, NONE, 2), 4, BACK, 5, 12);
    }

    static void promise18_backTheOutcomeGoesToTheResultBesides() {
        for (int c = TAINT; c <= UNSET; c++) {
            ValidPaths x = calling(c, 6, 2);
            x.outcome(1, 9);
            goesWithout("a local", x, 4, BACK, 5, 12, 9, bits(6));
            x.outcome(1, 6);
            goesWithout("a local of the same number", x, 4, BACK, 5, 12, 6, bits(6));
            x.outcome(1, 5);
            goesWithout("a parameter", x, 4, BACK, 5, 12, 5, bits(6));
        }
    }

    static void promise18_aGlobalThatIsTheResultGetsItByBackAlone() {
        for (int c = TAINT; c <= UNSET; c++) {
            ValidPaths x = calling(c, 2, 2);
            x.outcome(1, 9);
            goesWithout("BACK", x, 4, BACK, 5, 12, 2, 0, 9, bits(2));
            due("ACROSS", x.goes(4, WITHIN, 2), 0);
            due("IN", x.goes(4, IN, 2), bits(2));
        }
    }

    static void promise18_backWithNoOutcomeZeroGoesToTheResultOfUnset() {
        goesWithout("a local of UNSET", calling(UNSET, 6, 2), 4, BACK, 5, 12, 0, bits(0, 6));
        goesWithout("a global of UNSET", calling(UNSET, 2, 2), 4, BACK, 5, 12, 0, bits(0, 2), 2, 0);
        goesWithout("a local of TAINT", calling(TAINT, 6, 2), 4, BACK, 5, 12);
        goesWithout("a global of TAINT", calling(TAINT, 2, 2), 4, BACK, 5, 12, 2, 0);
    }

    static void promise18_backWithNoResultTheOutcomeGoesToNone() {
        for (int c = TAINT; c <= UNSET; c++) {
            ValidPaths x = calling(c, NONE, 2);
            x.outcome(1, 9);
            goesWithout("client " + c, x, 4, BACK, 5, 12);
        }
    }

    static void promise18_theOutcomeIsOfTheProcedureCalled() {
        ValidPaths x = calling(TAINT, 6, 2);
        x.outcome(0, 5);
        goesWithout("MAIN's", x, 4, BACK, 5, 12);
    }

    static void promise18_anEmptyArgumentGoesNowhere() {
        ValidPaths x = calling(TAINT, NONE, 2);
        goesWithout("both empty", x, 4, IN, 5, 12);
        x.argument(4, 1, 8);
        goesWithout("the first empty", x, 4, IN, 5, 12, 8, bits(6));
    }

    static void promise18_ofRoomForMoreThoseThatThereAreParametersFor() {
        goesWithout("four", calling(TAINT, NONE, 4, 5, 6, 7, 8), 4, IN, 5, 12, 5, bits(5), 6, bits(6));
        goesWithout("three of UNSET", calling(UNSET, NONE, 3, 1, 1, 1), 4, IN, 5, 12, 1, bits(1, 5, 6), 0, bits(0, 7, 8, 9));
    }

    static void promise18_ofRoomForFewerThoseThatThereAre() {
        goesWithout("one", calling(TAINT, NONE, 1, 8), 4, IN, 5, 12, 8, bits(5));
        goesWithout("none", calling(TAINT, NONE, 0), 4, IN, 5, 12);
        goesWithout("none of UNSET", calling(UNSET, NONE, 0), 4, IN, 5, 12, 0, bits(0, 7, 8, 9));
    }

    static void promise18_ofOwnWhereNoneIsToldItGoesToItselfAlone() {
        ValidPaths x = calling(OWN, 6, 2, 5, 1);
        x.outcome(1, 9);
        for (int part = 0; part < 3; part++) goesAs("part " + part, x, 4, part);
        ValidPaths y = kinds();
        y.client(OWN);
        for (int n = 0; n <= 10; n++) goesAs("kind " + n, y, n, WITHIN);
    }

    static void promise18_byTheClientThatIsThere() {
        ValidPaths x = one(TAINT, SOURCE, 5, 0, 0);
        x.zero(2, WITHIN, bits(7));
        int[] want = {bits(0, 5), 1, bits(0, 7)};
        for (int round = 0; round < 2; round++) {
            for (int c = TAINT; c <= OWN; c++) {
                x.client(c);
                due("client " + c, x.goes(2, WITHIN, 0), want[c]);
            }
        }
    }

    static void promise18_itIsToldInEachStageAndEndsNoSolving() {
        leavesAll(ALWAYS, "TAINT", bits(0, 5), () -> whole(TAINT), x -> x.goes(4, WITHIN, 0));
        leavesAll(ALWAYS, "UNSET", 1, () -> whole(UNSET), x -> x.goes(4, WITHIN, 0));
        leavesAll(ALWAYS, "OWN", bits(0, 1), () -> whole(OWN), x -> x.goes(4, WITHIN, 0));
    }

    static void promise18_noNodeIsBad() {
        for (int n : NO_NODES) refused(ALWAYS, "of node " + n, BAD, () -> program(), x -> x.goes(n, WITHIN, 5));
    }

    static void promise18_noPartIsBad() {
        for (int p : NO_PARTS) {
            refused(ALWAYS, "part " + p + " of a call", BAD, () -> program(), x -> x.goes(5, p, 5));
            refused(ALWAYS, "part " + p + " of no call", BAD, () -> program(), x -> x.goes(4, p, 5));
        }
    }

    static void promise18_noFactIsBad() {
        int[] none = {-1, 13, 14, NONE, MAX, MIN};
        for (int f : none) refused(ALWAYS, "of " + f, BAD, () -> program(), x -> x.goes(5, IN, f));
    }

    static void promise18_inAndBackOfNoCallAreCast() {
        for (int n = 0; n <= 10; n++) {
            int node = n;
            for (int part = IN; part <= BACK && n != CALL; part++) {
                int p = part;
                found(ALWAYS, "part " + part + " of kind " + n, CAST, () -> kinds(), x -> x.goes(node, p, 0));
            }
        }
    }

    static void promise18_badComesBeforeCast() {
        refused(ALWAYS, "fact", BAD, () -> program(), x -> x.goes(4, IN, 13));
        refused(ALWAYS, "part", BAD, () -> program(), x -> x.goes(4, 3, 5));
    }
}
