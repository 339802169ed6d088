/** Each promise of the document by itself: ordinary inputs, edges, wrong inputs; answers worked out by hand. */
public final class PromiseTest {
    static final int BAD = -1, FULL = -2, FINDING = -3, STATE = -4, NONE = -5;
    static final int SKIP = 2, SET = 3, COPY = 4, JOIN = 5, SOURCE = 6, CLEAN = 7, SINK = 8;
    static final int MAX = Integer.MAX_VALUE, MIN = Integer.MIN_VALUE;
    static int wrong, promise;

    static void due(String what, long got, long want) {
        if (got != want) {
            wrong++;
            System.out.println("promise " + promise + ": " + what + " answered " + got + ", due is " + want);
        }
    }

    /** A finding is answered, it is this one, and it is counted once. */
    static void found(String what, ValidPaths x, int before, long got, int finding) {
        due(what, got, FINDING);
        due(what + ", finding()", x.finding(), finding);
        due(what + ", findings()", x.findings(finding), before + 1);
    }

    static ValidPaths with(int... procedures) {
        ValidPaths x = new ValidPaths();
        for (int i = 0; i + 1 < procedures.length; i += 2) {
            x.procedure(procedures[i], procedures[i + 1]);
        }
        return x;
    }

    static int bits(int... facts) {
        int b = 0;
        for (int f : facts) b |= 1 << f;
        return b;
    }

    /** MAIN with one local: SOURCE (2), SINK (3), in a row. */
    static ValidPaths row() {
        ValidPaths x = with(1, 0);
        x.node(0, SOURCE, 5, 0, 0);
        x.node(0, SINK, 5, 0, 0);
        x.edge(0, 2);
        x.edge(2, 3);
        x.edge(3, 1);
        return x;
    }

    /** MAIN (2 locals) taints 5 (node 4), gives it to procedure 1 (call 5, return 6), whose parameter comes back in 6. */
    static ValidPaths called() {
        ValidPaths x = with(2, 0, 1, 1);
        x.outcome(1, 5);
        x.node(0, SOURCE, 5, 0, 0);
        x.call(0, 1, 6, 1);
        x.argument(5, 0, 5);
        x.edge(0, 4);
        x.edge(4, 5);
        x.edge(6, 1);
        x.edge(2, 3);
        return x;
    }

    static void newObject() {
        ValidPaths x = new ValidPaths();
        for (int what = 0; what <= 5; what++) due("count(" + what + ")", x.count(what), 0);
        due("client", x.client(0), 0);
        due("ends", x.ends(0, false), BAD);
        due("solved", x.solved(), 0);
        due("finding", x.finding(), 0);
        due("begin", x.begin(0), 0);
        due("digest", x.digest(), 17 * 31);
    }

    static void procedure() {
        ValidPaths x = new ValidPaths();
        int[][] bad = {{-1, 0}, {9, 0}, {0, 1}, {3, 4}, {8, 5}, {5, -1}, {MAX, 0}, {MIN, 0}, {4, MAX}, {4, MIN}};
        for (int[] b : bad) due("procedure(" + b[0] + ", " + b[1] + ")", x.procedure(b[0], b[1]), BAD);
        due("none was made", x.count(0), 0);
        due("no locals", x.procedure(0, 0), 0);
        due("most", x.procedure(8, 4), 1);
        due("nodes", x.count(1), 4);
        due("kind", x.told(2, 1), 0);
        due("kind", x.told(3, 1), 1);
        due("owner", x.told(3, 0), 1);
        for (int i = 2; i < 8; i++) due("next", x.procedure(1, 1), i);
        due("ninth", x.procedure(1, 1), FULL);
        due("BAD before FULL", x.procedure(9, 1), BAD);
        ValidPaths y = with(0, 0);
        for (int i = 2; i < 63; i++) y.node(0, SKIP, 0, 0, 0);
        due("63 nodes", y.procedure(0, 0), FULL);
        due("still one", y.count(0), 1);
        ValidPaths z = with(0, 0);
        for (int i = 2; i < 62; i++) z.node(0, SKIP, 0, 0, 0);
        due("62 nodes", z.procedure(0, 0), 1);
        due("64 nodes", z.count(1), 64);
    }

    static void ends() {
        ValidPaths x = with(0, 0);
        x.node(0, SKIP, 0, 0, 0);
        x.procedure(0, 0);
        due("enter", x.ends(1, false), 3);
        due("leave", x.ends(1, true), 4);
        due("leave of MAIN", x.ends(0, true), 1);
        int[] bad = {-1, 2, MAX, MIN};
        for (int p : bad) due("ends(" + p + ")", x.ends(p, true), BAD);
    }

    static void outcome() {
        ValidPaths x = with(2, 1);
        due("first", x.outcome(0, 6), NONE);
        due("then", x.outcome(0, 5), 6);
        int[] bad = {7, 4, 1, 0, -1, 13, MAX, MIN};
        for (int b : bad) due("outcome(0, " + b + ")", x.outcome(0, b), BAD);
        due("none again", x.outcome(0, NONE), 5);
        due("none it was", x.outcome(0, NONE), NONE);
        due("no procedure", x.outcome(1, NONE), BAD);
        due("no procedure", x.outcome(-1, 5), BAD);
        due("no locals", with(0, 0).outcome(0, 5), BAD);
    }

    static void node() {
        ValidPaths x = with(2, 0);
        due("SKIP looks at none", x.node(0, SKIP, MAX, MIN, -7), 2);
        due("SET looks at x alone", x.node(0, SET, 6, 99, 99), 3);
        due("COPY looks at x, y", x.node(0, COPY, 1, 6, 99), 4);
        due("JOIN", x.node(0, JOIN, 5, 5, 5), 5);
        due("SOURCE", x.node(0, SOURCE, 4, 0, 0), 6);
        due("CLEAN", x.node(0, CLEAN, 4, 0, 0), 7);
        due("SINK", x.node(0, SINK, 4, 0, 0), 8);
        int[] kinds = {0, 1, 9, 10, 11, -1, MAX, MIN};
        for (int k : kinds) due("kind " + k, x.node(0, k, 5, 5, 5), BAD);
        int[] none = {0, 7, 13, -1, NONE, MAX, MIN};
        for (int v : none) {
            for (int k = SET; k <= SINK; k++) due("kind " + k + ", x " + v, x.node(0, k, v, 5, 5), BAD);
            due("COPY y " + v, x.node(0, COPY, 5, v, 5), BAD);
            due("JOIN y " + v, x.node(0, JOIN, 5, v, 5), BAD);
            due("JOIN z " + v, x.node(0, JOIN, 5, 5, v), BAD);
        }
        due("no procedure", x.node(1, SKIP, 0, 0, 0), BAD);
        for (int i = 9; i < 64; i++) due("next", x.node(0, SKIP, 0, 0, 0), i);
        due("65th", x.node(0, SKIP, 0, 0, 0), FULL);
        due("BAD before FULL", x.node(0, SET, 0, 0, 0), BAD);
    }

    static void call() {
        ValidPaths x = with(1, 0, 8, 4);
        due("call", x.call(0, 1, 5, 4), 4);
        due("its return", x.told(4, 7), 5);
        due("return's kind", x.told(5, 1), 10);
        for (int i = 0; i < 4; i++) due("empty", x.given(4, i), NONE);
        due("own, no result, another number", x.call(0, 0, NONE, 1), 6);
        due("calls", x.count(3), 2);
        int[][] bad = {{2, 0, NONE, 0}, {-1, 0, NONE, 0}, {0, 2, NONE, 0}, {0, -1, NONE, 0}, {0, 1, 6, 4},
            {0, 1, 0, 4}, {0, 1, -1, 4}, {0, 1, 5, 5}, {0, 1, 5, MAX}, {0, 1, 13, -1}};
        for (int[] b : bad) due("call(" + b[0] + ", " + b[1] + ", ..)", x.call(b[0], b[1], b[2], b[3]), BAD);
        found("SIZE", x, 0, x.call(0, 1, 5, -1), 5);
        found("SIZE", x, 1, x.call(0, 1, 5, MIN), 5);
        due("nothing was made", x.count(1), 8);
        for (int i = 8; i < 63; i++) x.node(0, SKIP, 0, 0, 0);
        due("63 nodes", x.call(0, 1, 5, 4), FULL);
        due("FULL before SIZE", x.call(0, 1, 5, -1), FULL);
        due("BAD before FULL", x.call(0, 1, 5, 5), BAD);
        due("no more SIZE", x.findings(5), 2);
        due("63", x.count(1), 63);
    }

    static void argument() {
        ValidPaths x = with(1, 0, 3, 3);
        x.call(0, 1, NONE, 3);
        due("first", x.argument(4, 0, 5), 1);
        due("last", x.argument(4, 2, 4), 1);
        due("given", x.given(4, 2), 4);
        due("between", x.given(4, 1), NONE);
        due("emptied", x.argument(4, 0, NONE), 1);
        due("empty", x.given(4, 0), NONE);
        int[] bad = {0, 6, 13, -1, MAX, MIN};
        for (int v : bad) due("argument(4, 0, " + v + ")", x.argument(4, 0, v), BAD);
        due("no node", x.argument(6, 0, 5), BAD);
        due("no node", x.argument(-1, 0, 5), BAD);
        found("CAST of its return", x, 0, x.argument(5, 0, 5), 3);
        found("CAST before BEYOND", x, 1, x.argument(0, 9, 5), 3);
        due("BAD before CAST", x.argument(0, 0, 6), BAD);
        found("BEYOND", x, 0, x.argument(4, 3, 5), 2);
        found("BEYOND", x, 1, x.argument(4, -1, 5), 2);
        found("BEYOND", x, 2, x.argument(4, MAX, NONE), 2);
        due("BAD before BEYOND", x.argument(4, 3, 6), BAD);
    }

    static void copy() {
        ValidPaths x = with(4, 0, 0, 0);
        x.call(0, 0, NONE, 4);
        x.call(0, 0, NONE, 2);
        x.call(1, 0, NONE, 4);
        for (int i = 0; i < 4; i++) x.argument(4, i, 5 + i);
        due("onto itself, ahead", x.copy(4, 0, 4, 1, 3), 1);
        int[] want = {5, 5, 6, 7};
        for (int i = 0; i < 4; i++) due("argument " + i, x.given(4, i), want[i]);
        due("onto itself, back", x.copy(4, 1, 4, 0, 3), 1);
        int[] then = {5, 6, 7, 7};
        for (int i = 0; i < 4; i++) due("argument " + i, x.given(4, i), then[i]);
        due("to another", x.copy(4, 1, 6, 0, 2), 1);
        due("there", x.given(6, 0), 6);
        due("there", x.given(6, 1), 7);
        x.argument(6, 1, NONE);
        due("an empty one too", x.copy(6, 1, 4, 0, 1), 1);
        due("empty", x.given(4, 0), NONE);
        due("none from behind the last", x.copy(4, 4, 6, 2, 0), 1);
        int[][] beyond = {{4, 3, 6, 0, 2}, {4, 0, 6, 1, 2}, {4, -1, 6, 0, 1}, {4, 0, 6, -1, 1}, {4, 0, 6, 0, -1},
            {4, 5, 6, 0, 0}, {4, 0, 6, 3, 0}, {4, MAX, 6, 0, MAX}, {4, 1, 6, 1, MAX}, {4, MIN, 6, 0, MIN}};
        for (int i = 0; i < beyond.length; i++) {
            int[] b = beyond[i];
            found("BEYOND " + i, x, i, x.copy(b[0], b[1], b[2], b[3], b[4]), 2);
        }
        due("all or none", x.given(6, 0), 6);
        due("all or none", x.given(6, 1), NONE);
        found("CAST first", x, 0, x.copy(0, 0, 4, 0, 9), 3);
        found("CAST second", x, 1, x.copy(4, 0, 5, 0, 9), 3);
        due("no node", x.copy(10, 0, 4, 0, 0), BAD);
        due("no node", x.copy(4, 0, -1, 0, 0), BAD);
        due("unlike procedures", x.copy(4, 0, 8, 0, 1), BAD);
        due("unlike procedures before CAST", x.copy(0, 0, 2, 0, 1), BAD);
    }

    static void edge() {
        ValidPaths x = with(0, 0, 0, 0);
        x.node(0, SKIP, 0, 0, 0);
        x.call(0, 0, NONE, 0);
        due("0 to 4", x.edge(0, 4), 0);
        due("to itself", x.edge(4, 4), 1);
        due("from a return", x.edge(6, 5), 2);
        due("there", x.edge(4, 4), 1);
        due("enter to leave", x.edge(0, 1), 3);
        int[][] bad = {{1, 4}, {5, 4}, {4, 0}, {4, 6}, {5, 6}, {0, 3}, {4, 2}, {7, 4}, {4, 7}, {-1, 4}, {4, -1}, {MAX, MIN}};
        for (int[] b : bad) due("edge(" + b[0] + ", " + b[1] + ")", x.edge(b[0], b[1]), BAD);
        ValidPaths y = with(0, 0);
        for (int i = 2; i < 14; i++) y.node(0, SKIP, 0, 0, 0);
        int made = 0;
        for (int a = 2; a < 14; a++) {
            for (int b = 2; b < 14 && made < 120; b++) due("edge", y.edge(a, b), made++);
        }
        due("121st", y.edge(0, 1), FULL);
        due("there, though FULL", y.edge(2, 3), 1);
        due("BAD before FULL", y.edge(1, 0), BAD);
        due("edges", y.count(2), 120);
    }

    static void told() {
        ValidPaths x = with(3, 0, 1, 1);
        x.node(0, JOIN, 5, 6, 7);
        x.node(0, COPY, 1, 2, 3);
        x.node(0, SINK, 7, 2, 3);
        x.node(0, SKIP, 5, 5, 5);
        x.call(0, 1, 7, 1);
        int[][] want = {
            {0, 0, NONE, NONE, NONE, NONE, NONE, NONE, NONE, NONE},
            {0, 1, NONE, NONE, NONE, NONE, NONE, NONE, NONE, NONE},
            {1, 0, NONE, NONE, NONE, NONE, NONE, NONE, NONE, NONE},
            {1, 1, NONE, NONE, NONE, NONE, NONE, NONE, NONE, NONE},
            {0, 5, 5, 6, 7, NONE, NONE, NONE, NONE, NONE},
            {0, 4, 1, 2, NONE, NONE, NONE, NONE, NONE, NONE},
            {0, 8, 7, NONE, NONE, NONE, NONE, NONE, NONE, NONE},
            {0, 2, NONE, NONE, NONE, NONE, NONE, NONE, NONE, NONE},
            {0, 9, NONE, NONE, NONE, 1, 7, 9, 1, NONE},
            {0, 10, NONE, NONE, NONE, NONE, NONE, NONE, NONE, 8}};
        for (int n = 0; n < want.length; n++) {
            for (int what = 0; what < 10; what++) due("told(" + n + ", " + what + ")", x.told(n, what), want[n][what]);
        }
        int[] bad = {-1, 10, MAX, MIN};
        for (int b : bad) due("told what", x.told(0, b), BAD);
        for (int b : bad) due("told node", x.told(b, 0), BAD);
    }

    static void given() {
        ValidPaths x = with(0, 0);
        x.call(0, 0, NONE, 2);
        x.argument(2, 1, 3);
        due("empty", x.given(2, 0), NONE);
        due("given", x.given(2, 1), 3);
        due("no node", x.given(4, 0), BAD);
        due("no node", x.given(-1, 0), BAD);
        found("CAST", x, 0, x.given(3, 0), 3);
        found("CAST before BEYOND", x, 1, x.given(1, -1), 3);
        found("BEYOND", x, 0, x.given(2, 2), 2);
        found("BEYOND", x, 1, x.given(2, MIN), 2);
    }

    static void is() {
        ValidPaths x = with(0, 0);
        for (int k = SKIP; k <= SINK; k++) x.node(0, k, 1, 2, 3);
        x.call(0, 0, NONE, 0);
        // by kinds 0 .. 10: the kinds that it is
        int[] are = {bits(0), bits(1), bits(2), bits(3), bits(3, 4), bits(3, 4, 5), bits(3, 6), bits(3, 7), bits(8), bits(9), bits(10)};
        for (int kind = 0; kind <= 10; kind++) {
            for (int k = 0; k <= 10; k++) due("is(" + kind + ", " + k + ")", x.is(kind, k), are[kind] >> k & 1);
        }
        int[] bad = {-1, 11, NONE, MAX, MIN};
        for (int b : bad) due("is kind", x.is(0, b), BAD);
        for (int b : bad) due("is node", x.is(b, 0), BAD);
    }

    static void client() {
        ValidPaths x = new ValidPaths();
        due("TAINT", x.client(2), 0);
        due("OWN", x.client(1), 2);
        int[] bad = {-1, 3, MAX, MIN};
        for (int b : bad) due("client(" + b + ")", x.client(b), BAD);
        due("UNSET", x.client(1), 1);
    }

    static void flow() {
        ValidPaths x = with(0, 0);
        x.call(0, 0, NONE, 0);
        x.client(2);
        due("flow", x.flow(0, 0, 12, 8191), 1);
        due("goes", x.goes(0, 0, 12), 8191);
        due("to none", x.flow(0, 0, 12, 0), 1);
        due("goes to none", x.goes(0, 0, 12), 0);
        due("another", x.goes(0, 0, 11), bits(11));
        for (int part = 0; part < 3; part++) due("part", x.flow(2, part, 1, bits(2 + part)), 1);
        for (int part = 0; part < 3; part++) due("goes", x.goes(2, part, 1), bits(2 + part));
        due("ZERO is no such fact", x.flow(0, 0, 0, 1), BAD);
        int[] bad = {-1, 13, MAX, MIN};
        for (int b : bad) due("fact", x.flow(0, 0, b, 1), BAD);
        for (int b : bad) due("node", x.flow(b, 0, 1, 1), BAD);
        for (int b : bad) due("part", x.flow(2, b == 13 ? 3 : b, 1, 1), BAD);
        for (int b : bad) due("bits", x.flow(2, 1, 1, b == 13 ? 8192 : b), BAD);
        found("CAST", x, 0, x.flow(0, 1, 1, 1), 3);
        found("CAST", x, 1, x.flow(3, 2, 1, 1), 3);
        due("BAD before CAST", x.flow(0, 1, 1, 8192), BAD);
    }

    static void zero() {
        ValidPaths x = with(0, 0);
        x.call(0, 0, NONE, 0);
        x.client(2);
        due("zero", x.zero(1, 0, bits(3)), 1);
        due("ZERO besides", x.goes(1, 0, 0), bits(0, 3));
        due("to none besides", x.zero(1, 0, 0), 1);
        due("ZERO alone", x.goes(1, 0, 0), 1);
        due("BACK", x.zero(2, 2, 8191), 1);
        due("all", x.goes(2, 2, 0), 8191);
        due("IN not", x.goes(2, 1, 0), 1);
        due("bits", x.zero(0, 0, 8192), BAD);
        due("bits", x.zero(0, 0, -1), BAD);
        due("part", x.zero(2, 3, 0), BAD);
        due("part", x.zero(2, -1, 0), BAD);
        due("node", x.zero(4, 0, 0), BAD);
        found("CAST", x, 0, x.zero(0, 2, 0), 3);
        due("BAD before CAST", x.zero(0, 2, -1), BAD);
    }

    static void forget() {
        ValidPaths x = with(0, 0);
        x.call(0, 0, NONE, 0);
        x.client(2);
        x.flow(2, 1, 3, 0);
        x.flow(2, 1, 4, 0);
        x.zero(2, 2, 0);
        found("NOTHING", x, 0, x.forget(2, 0), 1);
        due("IN", x.forget(2, 1), 1);
        due("itself again", x.goes(2, 1, 3), bits(3));
        due("itself again", x.goes(2, 1, 4), bits(4));
        found("NOTHING", x, 1, x.forget(2, 1), 1);
        due("a ROW of ZERO alone", x.forget(2, 2), 1);
        found("CAST before NOTHING", x, 0, x.forget(0, 1), 3);
        due("node", x.forget(4, 0), BAD);
        due("part", x.forget(2, 3), BAD);
        due("part", x.forget(0, -1), BAD);
    }

    static void begin() {
        ValidPaths x = with(0, 0);
        due("none", x.begin(bits(5, 12)), 0);
        due("those", x.begin(8191), bits(5, 12));
        int[] bad = {-1, 8192, MAX, MIN};
        for (int b : bad) due("begin(" + b + ")", x.begin(b), BAD);
        due("all", x.begin(bits(7)), 8191);
        x.client(2);
        x.solve(20000);
        due("of OWN", x.holds(0), bits(0, 7));
        x.client(0);
        x.solve(20000);
        due("of TAINT not", x.holds(0), 1);
        x = with(3, 2, 5, 0);
        x.client(1);
        x.solve(20000);
        due("of UNSET", x.holds(0), bits(0, 1, 2, 3, 4, 5, 6, 7));
    }

    static void goes() {
        ValidPaths x = with(4, 0, 5, 2);
        int join = x.node(0, JOIN, 5, 6, 1), joinX = x.node(0, JOIN, 5, 6, 5), joinY = x.node(0, JOIN, 5, 5, 7);
        int copy = x.node(0, COPY, 5, 6, 0), same = x.node(0, COPY, 5, 5, 0), set = x.node(0, SET, 5, 0, 0);
        int source = x.node(0, SOURCE, 5, 0, 0), clean = x.node(0, CLEAN, 5, 0, 0), sink = x.node(0, SINK, 5, 0, 0);
        for (int c = 0; c < 2; c++) {
            x.client(c);
            int[][] want = {{join, 5, 0}, {join, 6, bits(5, 6)}, {join, 1, bits(1, 5)}, {joinX, 5, bits(5)}, {joinX, 6, bits(5, 6)},
                {joinY, 5, bits(5)}, {joinY, 7, bits(5, 7)}, {copy, 5, 0}, {copy, 6, bits(5, 6)}, {copy, 0, 1}, {same, 5, bits(5)},
                {set, 5, 0}, {set, 0, 1}, {set, 12, bits(12)}, {source, 5, 0}, {source, 0, c == 0 ? bits(0, 5) : 1},
                {clean, 5, 0}, {clean, 0, 1}, {sink, 5, bits(5)}, {0, 3, bits(3)}, {1, 3, bits(3)}};
            for (int[] w : want) due("client " + c + " goes(" + w[0] + ", 0, " + w[1] + ")", x.goes(w[0], 0, w[1]), w[2]);
        }
        int call = x.call(0, 1, 6, 2), global = x.call(0, 1, 2, 2);
        x.argument(call, 0, 3);
        x.argument(call, 1, 3);
        for (int c = 0; c < 2; c++) {
            x.client(c);
            x.outcome(1, NONE);
            int[][] want = {{call, 0, 0, 1}, {call, 0, 5, bits(5)}, {call, 0, 6, 0}, {call, 0, 2, 0}, {call, 1, 0, c == 0 ? 1 : bits(0, 7, 8, 9)},
                {call, 1, 3, bits(3, 5, 6)}, {call, 1, 2, bits(2)}, {call, 1, 5, 0}, {call, 2, 0, c == 0 ? 1 : bits(0, 6)}, {call, 2, 2, bits(2)},
                {call, 2, 5, 0}, {global, 0, 2, 0}, {global, 0, 6, bits(6)}, {global, 2, 2, 0}, {global, 2, 1, bits(1)}};
            for (int[] w : want) due("client " + c + " goes(" + w[0] + ", " + w[1] + ", " + w[2] + ")", x.goes(w[0], w[1], w[2]), w[3]);
            x.outcome(1, 9);
            due("outcome", x.goes(call, 2, 9), bits(6));
            due("outcome to a global", x.goes(global, 2, 9), bits(2));
            due("no ZERO then", x.goes(call, 2, 0), 1);
            due("no empty arguments", x.goes(global, 1, 3), bits(3));
        }
        int wide = x.call(0, 1, NONE, 4);
        for (int i = 0; i < 4; i++) x.argument(wide, i, 4);
        due("no more than parameters", x.goes(wide, 1, 4), bits(4, 5, 6));
        due("no result", x.goes(wide, 2, 9), 0);
        due("node", x.goes(-1, 0, 0), BAD);
        due("part", x.goes(call, 3, 0), BAD);
        due("part", x.goes(call, -1, 0), BAD);
        due("fact", x.goes(call, 0, 13), BAD);
        due("fact", x.goes(call, 0, -1), BAD);
        found("CAST", x, 0, x.goes(0, 1, 0), 3);
        due("BAD before CAST", x.goes(0, 1, 13), BAD);
    }

    static void solve() {
        ValidPaths x = new ValidPaths();
        due("no procedure", x.solve(0), STATE);
        due("BAD before STATE", x.solve(-1), BAD);
        due("BAD before STATE", x.solve(20001), BAD);
        x = called();
        due("none", x.solve(0), 0);
        due("not SOLVED", x.solved(), 0);
        due("four", x.solve(4), 4);
        due("the rest", x.solve(20000), 10);
        due("no more", x.solve(1), 0);
        due("turns", x.count(4), 14);
        x.argument(5, 0, NONE);
        due("empty", x.solve(1), STATE);
        x.argument(5, 0, 5);
        due("anew", x.solve(20000), 14);
        x.call(1, 0, NONE, 1);
        x.argument(7, 0, 5);
        due("room for another number", x.solve(1), STATE);
        String[] names = {"procedure", "outcome", "node", "argument", "copy", "edge", "client", "flow", "zero", "forget", "begin", "call"};
        for (int i = 0; i < names.length; i++) {
            x = called();
            x.zero(0, 0, 0);
            int all = x.solve(20000);
            switch (i) {
                case 0: x.procedure(0, 0); break;
                case 1: x.outcome(1, 5); break;
                case 2: x.node(0, SKIP, 0, 0, 0); break;
                case 3: x.argument(5, 0, 5); break;
                case 4: x.copy(5, 0, 5, 0, 0); break;
                case 5: x.edge(0, 5); break;
                case 6: x.client(0); break;
                case 7: x.flow(0, 0, 1, 2); break;
                case 8: x.zero(0, 0, 0); break;
                case 9: x.forget(0, 0); break;
                case 10: x.begin(0); break;
                default: x.call(0, 0, NONE, 0);
            }
            due(names[i] + " ends it", x.solved(), 0);
            due(names[i] + " ends it", x.holds(0), STATE);
            due("anew", x.solve(3), 3);
            due("turns since", x.count(4), 3);
            if (i != 5) due("all anew", x.solve(20000), all - 3);
        }
        x = called();
        x.solve(20000);
        x.edge(0, 4);
        x.procedure(9, 9);
        x.node(0, SET, 0, 0, 0);
        x.argument(5, 0, 9);
        x.argument(5, 1, 5);
        x.argument(4, 0, 5);
        x.call(0, 0, NONE, -1);
        x.copy(5, 0, 5, 1, 1);
        x.client(3);
        x.begin(-1);
        x.flow(0, 1, 1, 1);
        x.forget(0, 0);
        x.outcome(0, 1);
        x.solve(-1);
        due("what is refused or there does not end it", x.solved(), 1);
    }

    static void solved() {
        ValidPaths x = row();
        due("not yet", x.solved(), 0);
        x.solve(5);
        due("not yet", x.solved(), 0);
        x.solve(1);
        due("all six", x.solved(), 1);
    }

    static void holds() {
        ValidPaths x = row();
        due("STATE", x.holds(3), STATE);
        due("BAD before STATE", x.holds(4), BAD);
        x.solve(20000);
        due("before the source", x.holds(2), 1);
        due("behind it", x.holds(3), bits(0, 5));
        due("BAD", x.holds(-1), BAD);
        // two calls of one procedure: what the first brings does not come back to the second
        x = with(2, 0, 1, 1);
        x.outcome(1, 5);
        x.edge(2, 3);
        int source = x.node(0, SOURCE, 5, 0, 0), a = x.call(0, 1, 6, 1), b = x.call(0, 1, 6, 1);
        x.argument(a, 0, 5);
        x.argument(b, 0, 6);
        x.edge(0, source);
        x.edge(source, a);
        x.edge(0, b);
        x.solve(20000);
        due("came back", x.holds(a + 1), bits(0, 5, 6));
        due("came not back elsewhere", x.holds(b + 1), 1);
        due("in the procedure", x.holds(3), bits(0, 5));
        // a call that never comes back
        x = with(0, 0, 0, 0);
        int c = x.call(0, 1, NONE, 0);
        x.edge(0, c);
        int in = x.node(1, SINK, 1, 0, 0);
        x.edge(2, in);
        x.solve(20000);
        due("inside", x.holds(in), 1);
        due("ACROSS", x.holds(c + 1), 1);
        due("nowhere led to", x.holds(1), 0);
    }

    static void edges() {
        ValidPaths x = called();
        due("STATE", x.edges(false), STATE);
        due("STATE", x.edges(true), STATE);
        x.solve(20000);
        // MAIN: 0: Z; 4: Z; 5: Z 5; 6: Z 5 6; 1: Z 5 6; procedure: 2: Z, 5; 3: Z, 5
        due("path edges", x.edges(false), 1 + 1 + 2 + 3 + 3 + 2 + 2);
        due("summaries", x.edges(true), 2);
    }

    static void from() {
        ValidPaths x = called();
        due("STATE", x.from(3, 5), STATE);
        due("BAD before STATE", x.from(3, 13), BAD);
        x.solve(20000);
        due("by 5", x.from(3, 5), bits(5));
        due("by ZERO", x.from(3, 0), 1);
        due("by one that is not there", x.from(3, 1), 0);
        due("in MAIN", x.from(1, 0), bits(0, 5, 6));
        int[] bad = {-1, 13, MAX, MIN};
        for (int b : bad) due("fact", x.from(0, b), BAD);
        for (int b : bad) due("node", x.from(b, 0), BAD);
    }

    static void summary() {
        ValidPaths x = called();
        due("STATE", x.summary(5, 5), STATE);
        found("CAST before STATE", x, 0, x.summary(6, 5), 3);
        due("BAD before CAST", x.summary(6, 13), BAD);
        x.solve(20000);
        due("the result", x.summary(5, 5), bits(6));
        due("ZERO", x.summary(5, 0), 1);
        due("what does not HOLD at it", x.summary(5, 1), 0);
        due("not", x.summary(5, 6), 0);
        due("fact", x.summary(5, -1), BAD);
        due("node", x.summary(7, 0), BAD);
        found("CAST", x, 1, x.summary(0, 0), 3);
    }

    static void share() {
        ValidPaths x = called();
        due("STATE", x.share(5), STATE);
        due("BAD before STATE", x.share(0), BAD);
        x.solve(20000);
        // 5 at 5, 6, 1, 2, 3; 6 at 6, 1
        due("5 of 7", x.share(5), 714);
        due("2 of 7", x.share(6), 285);
        due("none of 7", x.share(1), 0);
        int[] bad = {0, -1, 13, MAX, MIN};
        for (int b : bad) due("share(" + b + ")", x.share(b), BAD);
        x = with(0, 0);
        due("STATE before NOUGHT", x.share(1), STATE);
        due("no finding", x.finding(), 0);
        x.solve(20000);
        found("NOUGHT", x, 0, x.share(1), 4);
        due("BAD before NOUGHT", x.share(13), BAD);
    }

    /** MAIN calls itself k times in a row with the fact above; fact 12 goes past the calls. */
    static ValidPaths deep(int k) {
        ValidPaths x = with(0, 0);
        int past = x.node(0, SKIP, 0, 0, 0);
        x.edge(0, past);
        x.edge(past, 1);
        for (int f = 1; f < 12; f++) x.flow(past, 0, f, 0);
        int last = 0;
        for (int i = 0; i < k; i++) {
            int c = x.call(0, 0, NONE, 0);
            x.edge(last, c);
            last = c + 1;
            for (int f = 1; f <= 12; f++) {
                x.flow(c, 0, f, 0);
                x.flow(c, 1, f, f == 12 ? 0 : bits(f + 1));
                x.flow(c, 2, f, f == 1 ? 0 : bits(f - 1));
            }
        }
        x.edge(last, 1);
        x.client(2);
        x.begin(bits(1));
        x.solve(20000);
        return x;
    }

    static void length() {
        ValidPaths x = called();
        due("STATE", x.length(1, 6), STATE);
        due("BAD before STATE", x.length(1, 13), BAD);
        x.solve(20000);
        due("beginning", x.length(0, 0), 0);
        due("ACROSS", x.length(6, 0), 3);
        due("by the procedure", x.length(6, 6), 5);
        due("IN", x.length(2, 5), 3);
        due("end", x.length(1, 6), 6);
        due("does not HOLD", x.length(1, 1), NONE);
        int[] bad = {-1, 13, MAX, MIN};
        for (int b : bad) due("fact", x.length(0, b), BAD);
        for (int b : bad) due("node", x.length(b, 0), BAD);
        for (int k = 1; k <= 12; k++) {
            x = deep(k);
            long level = 2;
            for (int f = 12; f >= 1; f--) {
                long want = level + 2 * (f - 1);
                due("deep " + k + ", fact " + f, x.length(1, f), Math.min(want, 1000000000000L));
                level = k * (level + 3) + 1;
            }
        }
    }

    /** A ring of so many nodes, each time round the fact goes one up. */
    static ValidPaths ring(int nodes) {
        ValidPaths x = with(0, 0);
        for (int i = 0; i < nodes; i++) x.node(0, SKIP, 0, 0, 0);
        for (int i = 0; i < nodes; i++) x.edge(2 + i, 2 + (i + 1) % nodes);
        x.edge(0, 2);
        for (int f = 1; f <= 12; f++) x.flow(1 + nodes, 0, f, f == 12 ? 0 : bits(f + 1));
        x.client(2);
        x.begin(bits(1));
        x.solve(20000);
        return x;
    }

    static void track() {
        ValidPaths x = called();
        due("STATE", x.track(1, 6), STATE);
        due("BAD before STATE", x.track(1, 13), BAD);
        due("none laid", x.count(5), 0);
        x.solve(20000);
        due("does not HOLD", x.track(1, 1), STATE);
        due("node", x.track(7, 0), BAD);
        due("node", x.track(-1, 0), BAD);
        due("fact", x.track(0, -1), BAD);
        due("laid", x.track(1, 6), 7);
        due("refused", x.track(1, 1), STATE);
        due("the latest that was not refused", x.count(5), 7);
        x = ring(30);
        due("300 states", x.track(30, 10), 300);
        due("length", x.length(31, 10), 300);
        due("301 states", x.track(31, 10), FULL);
        due("still 300", x.count(5), 300);
        for (int i = 1; i < 300; i++) {
            due("node " + i, x.at(i, 0), 2 + (i - 1) % 30);
            due("fact " + i, x.at(i, 1), 1 + (i - 1) / 30);
        }
        x = deep(6);
        due("above any", x.track(1, 2), FULL);
        due("an enter", x.track(0, 12), 23);
    }

    static void expect(ValidPaths x, int[][] states) {
        for (int i = 0; i < states.length; i++) {
            for (int what = 0; what < 4; what++) due("at(" + i + ", " + what + ")", x.at(i, what), states[i][what]);
        }
        due("no more", x.at(states.length, 0), BAD);
    }

    static void at() {
        ValidPaths x = called();
        due("none yet", x.at(0, 0), BAD);
        x.solve(20000);
        x.track(1, 6);
        int[][] states = {{0, 0, 0, 0}, {4, 0, 1, 0}, {5, 5, 1, 0}, {2, 5, 3, 1}, {3, 5, 1, 1}, {6, 6, 4, 0}, {1, 6, 1, 0}};
        expect(x, states);
        int[] bad = {-1, 4, MAX, MIN};
        for (int b : bad) due("what", x.at(0, b), BAD);
        due("i", x.at(-1, 0), BAD);
        due("i", x.at(MAX, 0), BAD);
        x.node(0, SKIP, 0, 0, 0);
        x.track(1, 6);
        expect(x, states);
        x.solve(20000);
        x.track(6, 5);
        expect(x, new int[][] {{0, 0, 0, 0}, {4, 0, 1, 0}, {5, 5, 1, 0}, {6, 5, 2, 0}});
        x.track(3, 5);
        expect(x, new int[][] {{0, 0, 0, 0}, {4, 0, 1, 0}, {5, 5, 1, 0}, {2, 5, 3, 1}, {3, 5, 1, 1}});
        // of paths of one length: the least node, the least fact, the least fact at the enter, ACROSS before BACK
        x = with(0, 0);
        x.client(2);
        x.begin(bits(3, 4));
        x.node(0, SKIP, 0, 0, 0);
        x.node(0, SKIP, 0, 0, 0);
        x.edge(0, 3);
        x.edge(0, 2);
        x.edge(3, 1);
        x.edge(2, 1);
        x.flow(0, 0, 3, bits(7, 8));
        x.flow(0, 0, 4, bits(6));
        for (int f = 6; f <= 8; f++) x.flow(2, 0, f, bits(9));
        for (int f = 6; f <= 8; f++) x.flow(3, 0, f, bits(9));
        x.solve(20000);
        x.track(1, 9);
        expect(x, new int[][] {{0, 3, 0, 0}, {2, 7, 1, 0}, {1, 9, 1, 0}});
        // calls of one length: the least node
        x = with(0, 0, 0, 0);
        int a = x.call(0, 1, NONE, 0), b = x.call(0, 1, NONE, 0);
        x.edge(0, b);
        x.edge(0, a);
        x.solve(20000);
        x.track(2, 0);
        expect(x, new int[][] {{0, 0, 0, 0}, {a, 0, 1, 0}, {2, 0, 3, 1}});
    }

    static void reports() {
        ValidPaths x = row();
        due("STATE", x.reports(), STATE);
        x.solve(20000);
        due("TAINT", x.reports(), 1);
        x.client(1);
        x.solve(20000);
        due("UNSET: the source sets it", x.reports(), 0);
        x.client(2);
        x.begin(8191);
        x.solve(20000);
        due("OWN", x.reports(), 0);
    }

    static void report() {
        ValidPaths x = with(3, 0, 2, 2);
        int join = x.node(0, JOIN, 5, 7, 6), twice = x.node(0, JOIN, 5, 6, 6), sink = x.node(0, SINK, 7, 0, 0);
        int copy = x.node(0, COPY, 6, 7, 0), call = x.call(0, 1, NONE, 2);
        x.argument(call, 0, 7);
        x.argument(call, 1, 1);
        x.edge(0, join);
        x.edge(join, twice);
        x.edge(twice, sink);
        x.edge(sink, copy);
        x.edge(copy, call);
        x.client(1);
        due("STATE", x.report(0, 0), STATE);
        due("BAD before STATE", x.report(0, 2), BAD);
        x.solve(20000);
        int[][] want = {{join, 6}, {join, 7}, {twice, 6}, {sink, 7}, {copy, 7}, {call, 1}, {call, 7}};
        due("reports", x.reports(), want.length);
        for (int i = 0; i < want.length; i++) {
            due("node of " + i, x.report(i, 0), want[i][0]);
            due("variable of " + i, x.report(i, 1), want[i][1]);
        }
        int[] none = {-1, want.length, MAX, MIN};
        for (int i : none) due("report(" + i + ", 0)", x.report(i, 0), NONE);
        int[] bad = {-1, 2, MAX, MIN};
        for (int b : bad) due("what", x.report(0, b), BAD);
        x.client(0);
        x.begin(0);
        x.solve(20000);
        due("TAINT: nothing is a source", x.report(0, 0), NONE);
        x = row();
        x.solve(20000);
        due("TAINT", x.report(0, 0), 3);
        due("TAINT", x.report(0, 1), 5);
    }

    static void count() {
        ValidPaths x = called();
        x.solve(9);
        int[] want = {2, 7, 4, 1, 9, 0};
        for (int what = 0; what < 6; what++) due("count(" + what + ")", x.count(what), want[what]);
        x.solve(20000);
        x.track(1, 6);
        due("turns", x.count(4), 14);
        due("states", x.count(5), 7);
        x.client(0);
        due("states stay", x.count(5), 7);
        int[] bad = {-1, 6, MAX, MIN};
        for (int b : bad) due("count(" + b + ")", x.count(b), BAD);
    }

    static void finding() {
        ValidPaths x = with(0, 0);
        due("none", x.finding(), 0);
        x.node(9, 9, 9, 9, 9);
        x.holds(0);
        due("none by BAD, STATE", x.finding(), 0);
        x.call(0, 0, NONE, -1);
        due("SIZE", x.finding(), 5);
        x.forget(0, 0);
        due("NOTHING", x.finding(), 1);
        x.procedure(9, 9);
        due("the latest", x.finding(), 1);
    }

    static void findings() {
        ValidPaths x = with(0, 0);
        x.call(0, 0, NONE, 0);
        for (int i = 0; i < 1; i++) x.forget(2, 0);
        for (int i = 0; i < 2; i++) x.given(2, 0);
        for (int i = 0; i < 3; i++) x.given(0, 0);
        x.solve(20000);
        for (int i = 0; i < 4; i++) x.share(1);
        for (int i = 0; i < 5; i++) x.call(0, 0, NONE, -1);
        for (int f = 1; f <= 5; f++) due("findings(" + f + ")", x.findings(f), f);
        int[] bad = {0, 6, -1, MAX, MIN};
        for (int b : bad) due("findings(" + b + ")", x.findings(b), BAD);
    }

    static void digest() {
        ValidPaths x = with(1, 1);
        x.call(0, 0, 5, 1);
        x.edge(0, 2);
        x.client(1);
        long[] told = {0, 0, -5, -5, -5, -5, -5, -5, -5, -5, 0, 1, -5, -5, -5, -5, -5, -5, -5, -5,
            0, 9, -5, -5, -5, 0, 5, 3, 1, -5, -5, 0, 10, -5, -5, -5, -5, -5, -5, -5, 2, 0, 2, 1, 1, -5, 1};
        due("an empty argument", x.digest(), sum(told));
        x.argument(2, 0, 5);
        x.outcome(0, 5);
        x.client(0);
        told[30] = 5;
        told[45] = 5;
        told[46] = 0;
        due("not SOLVED", x.digest(), sum(told));
        x.solve(20000);
        long[] solved = java.util.Arrays.copyOf(told, told.length + 4);
        solved[told.length] = 1;
        solved[told.length + 2] = 1;
        solved[told.length + 3] = 1;
        due("SOLVED", x.digest(), sum(solved));
    }

    static long sum(long[] values) {
        long h = 17;
        for (long v : values) h = 31 * h + v;
        return h;
    }

    static void run(int number) {
        promise = number;
        switch (number) {
            case 1: newObject(); break;
            case 2: procedure(); break;
            case 3: ends(); break;
            case 4: outcome(); break;
            case 5: node(); break;
            case 6: call(); break;
            case 7: argument(); break;
            case 8: copy(); break;
            case 9: edge(); break;
            case 10: told(); break;
            case 11: given(); break;
            case 12: is(); break;
            case 13: client(); break;
            case 14: flow(); break;
            case 15: zero(); break;
            case 16: forget(); break;
            case 17: begin(); break;
            case 18: goes(); break;
            case 19: solve(); break;
            case 20: solved(); break;
            case 21: holds(); break;
            case 22: edges(); break;
            case 23: from(); break;
            case 24: summary(); break;
            case 25: share(); break;
            case 26: length(); break;
            case 27: track(); break;
            case 28: at(); break;
            case 29: reports(); break;
            case 30: report(); break;
            case 31: count(); break;
            case 32: finding(); break;
            case 33: findings(); break;
            default: digest();
        }
    }

    public static void main(String[] args) {
        for (int number = 1; number <= 34; number++) run(number);
        System.out.println(wrong == 0 ? "all 34 promises answer as due" : wrong + " answers are not as due");
        if (wrong != 0) System.exit(1);
    }
}
