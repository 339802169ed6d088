import java.lang.reflect.InvocationTargetException;
import java.lang.reflect.Method;
import java.lang.reflect.Modifier;
import java.util.ArrayList;
import java.util.Arrays;
import java.util.Comparator;
import java.util.List;

/** What the tests by sentence share. Each test is a method that bears the number of its promise. */
public class Checks {
    static final int BAD = -1, FULL = -2, FINDING = -3, STATE = -4, NONE = -5;
    static final int NOTHING = 1, BEYOND = 2, CAST = 3, NOUGHT = 4, SIZE = 5;
    static final int ENTER = 0, LEAVE = 1, SKIP = 2, SET = 3, COPY = 4, JOIN = 5, SOURCE = 6, CLEAN = 7, SINK = 8, CALL = 9, RETURN = 10;
    static final int TAINT = 0, UNSET = 1, OWN = 2;
    static final int WITHIN = 0, IN = 1, BACK = 2;
    static final int MAX = Integer.MAX_VALUE, MIN = Integer.MIN_VALUE, ALL = 20000;
    /** So many calls the asking after a refused call may take; with those that made the program they stay under 512. */
    private static final int MOST_ANSWERS = 380;

    /** How far a program is solved as a call comes: not at all, in part, whole with a track laid. */
    static final int[] ALWAYS = {0, 1, 2}, UNSOLVED = {0, 1}, SOLVED = {2}, AS_MADE = {0};

    interface Made {
        ValidPaths now();
    }

    interface Call {
        long on(ValidPaths x);
    }

    private static int wrong;
    private static String test = "";

    static void due(String what, long got, long want) {
        if (got != want) {
            wrong++;
            System.out.println(test + ": " + what + " answered " + got + ", due is " + want);
        }
    }

    static int bits(int... facts) {
        int all = 0;
        for (int fact : facts) all |= 1 << fact;
        return all;
    }

    // ---- programs

    /** Procedures, told by pairs of locals and parameters. */
    static ValidPaths with(int... procedures) {
        ValidPaths x = new ValidPaths();
        for (int i = 0; i + 1 < procedures.length; i += 2) x.procedure(procedures[i], procedures[i + 1]);
        return x;
    }

    static ValidPaths eightProcedures() {
        return with(1, 0, 1, 0, 1, 0, 1, 0, 1, 0, 1, 0, 1, 0, 1, 0);
    }

    /** MAIN with one local and so many nodes, all in a row. */
    static ValidPaths nodes(int all) {
        ValidPaths x = with(1, 0);
        int last = 0;
        for (int i = 2; i < all; i++) {
            int next = x.node(0, SKIP, 0, 0, 0);
            x.edge(last, next);
            last = next;
        }
        x.edge(last, 1);
        return x;
    }

    /** MAIN with 14 nodes and so many edges; the enter and the leave have none up to 120. */
    static ValidPaths edges(int all) {
        ValidPaths x = with(1, 0);
        for (int i = 0; i < 12; i++) x.node(0, SKIP, 0, 0, 0);
        for (int i = 0; i < all; i++) x.edge(2 + i / 12, 2 + i % 12);
        return x;
    }

    /** One node of each kind 0 .. 10, whose number is its kind: MAIN's, with no locals and a call of itself. */
    static ValidPaths kinds() {
        ValidPaths x = with(0, 0);
        for (int kind = SKIP; kind <= SINK; kind++) x.node(0, kind, 1, 2, 3);
        x.call(0, 0, NONE, 0);
        return x;
    }

    /**
     * MAIN (locals 5, 6): source 4, call 5 with return 6, sink 7, join 9; procedure 1 (locals 5, 6, 7, of which
     * two are parameters): copy 8; rows of OWN on several of them.
     */
    static ValidPaths whole(int client) {
        ValidPaths x = with(2, 0, 3, 2);
        x.node(0, SOURCE, 5, 0, 0);
        x.call(0, 1, 6, 2);
        x.node(0, SINK, 6, 0, 0);
        x.node(1, COPY, 7, 5, 0);
        x.node(0, JOIN, 1, 2, 6);
        x.argument(5, 0, 5);
        x.argument(5, 1, 1);
        x.outcome(1, 7);
        int[][] edges = {{0, 4}, {4, 5}, {6, 7}, {7, 9}, {9, 1}, {2, 8}, {8, 3}};
        for (int[] e : edges) x.edge(e[0], e[1]);
        x.zero(4, WITHIN, bits(1));
        x.flow(4, WITHIN, 5, bits(5, 6));
        x.flow(5, IN, 5, bits(6));
        x.zero(5, BACK, bits(2));
        x.flow(8, WITHIN, 6, 0);
        x.begin(bits(5));
        x.client(client);
        return x;
    }

    // ---- what is refused

    /** The call answers so in each of these stages, and all is as if it had not come. */
    static void refused(int[] stages, String what, int answer, Made made, Call call) {
        leavesAll(stages, what, answer, made, call);
    }

    /** Likewise of a call that is not refused. */
    static void leavesAll(int[] stages, String what, long answer, Made made, Call call) {
        for (int stage : stages) alone(what + ", stage " + stage, made, stage, call, answer, 0);
    }

    /** Refused by a finding, which alone is told from then on. */
    static void found(int[] stages, String what, int finding, Made made, Call call) {
        for (int stage : stages) alone(what + ", stage " + stage, made, stage, call, FINDING, finding);
    }

    private static void alone(String what, Made made, int stage, Call call, long answer, int finding) {
        ValidPaths x = staged(made, stage), twin = staged(made, stage);
        due(what, call.on(x), answer);
        due(what + ", finding()", x.finding(), finding == 0 ? twin.finding() : finding);
        for (int f = NOTHING; f <= SIZE; f++) due(what + ", findings(" + f + ")", x.findings(f), twin.findings(f) + (f == finding ? 1 : 0));
        alike(what, answersNow(x), answersNow(twin));
        x = staged(made, stage);
        call.on(x);
        alike(what, answersBehind(x), answersBehind(staged(made, stage)));
    }

    private static ValidPaths staged(Made made, int stage) {
        ValidPaths x = made.now();
        if (stage == 1) x.solve(2);
        if (stage == 2) {
            x.solve(ALL);
            x.track(1, 0);
        }
        return x;
    }

    private static void alike(String what, List<String> got, List<String> want) {
        if (want.size() > MOST_ANSWERS) due("calls after " + what, want.size(), MOST_ANSWERS);
        for (int i = 0; i < Math.max(got.size(), want.size()); i++) {
            String a = i < got.size() ? got.get(i) : "nothing", b = i < want.size() ? want.get(i) : "nothing";
            if (!a.equals(b)) {
                wrong++;
                System.out.println(test + ": behind " + what + " there is " + a + ", without it " + b);
                return;
            }
        }
    }

    private static final class Answers {
        final List<String> all = new ArrayList<>();

        long add(String call, long answer) {
            all.add(call + " -> " + answer);
            return answer;
        }
    }

    /** All that is told without a change; of programs with many nodes of fewer facts. */
    private static List<String> answersNow(ValidPaths x) {
        Answers a = new Answers();
        a.add("digest()", x.digest());
        for (int what = 0; what <= 5; what++) a.add("count(" + what + ")", x.count(what));
        a.add("solved()", x.solved());
        int nodes = x.count(1), states = Math.min(12, x.count(5)), facts = nodes > 12 ? 1 : 13;
        for (int i = 0; i < states; i++) for (int what = 0; what < 4; what++) a.add("at(" + i + ", " + what + ")", x.at(i, what));
        a.add("edges(false)", x.edges(false));
        a.add("edges(true)", x.edges(true));
        for (int n = 0; n < nodes; n++) {
            a.add("holds(" + n + ")", x.holds(n));
            for (int f = 0; f < facts; f++) a.add("from(" + n + ", " + f + ")", x.from(n, f));
            for (int f = 0; f < facts; f++) a.add("length(" + n + ", " + f + ")", x.length(n, f));
        }
        long reports = a.add("reports()", x.reports());
        for (int i = 0; i < reports; i++) for (int what = 0; what < 2; what++) a.add("report(" + i + ", " + what + ")", x.report(i, what));
        return a.all;
    }

    /** How it goes on: the rest of the solving, then the rows, what is at the beginning, the outcomes. */
    private static List<String> answersBehind(ValidPaths x) {
        Answers a = new Answers();
        a.add("solve", x.solve(ALL));
        a.add("digest()", x.digest());
        int nodes = x.count(1), procedures = x.count(0), first = nodes > 12 ? 5 : 0, facts = nodes > 12 ? 6 : 13;
        a.add("client(OWN)", x.client(OWN));
        for (int n = 0; n < nodes; n++) {
            int parts = x.told(n, 1) == CALL ? 3 : 1;
            for (int part = 0; part < parts; part++) {
                for (int f = first; f < facts; f++) a.add("goes(" + n + ", " + part + ", " + f + ")", x.goes(n, part, f));
            }
        }
        a.add("begin(0)", x.begin(0));
        for (int p = 0; p < procedures; p++) {
            a.add("ends(" + p + ", false)", x.ends(p, false));
            a.add("ends(" + p + ", true)", x.ends(p, true));
            a.add("outcome(" + p + ", NONE)", x.outcome(p, NONE));
        }
        a.add("solve", x.solve(ALL));
        a.add("digest()", x.digest());
        return a.all;
    }

    // ---- tracks

    /** The track has these states: node, fact, how it was come to, open calls. */
    static void tracks(ValidPaths x, int node, int fact, int[]... states) {
        due("track(" + node + ", " + fact + ")", x.track(node, fact), states.length);
        laid(x, states);
    }

    static void laid(ValidPaths x, int[]... states) {
        due("states", x.count(5), states.length);
        for (int i = 0; i < states.length; i++) {
            for (int what = 0; what < 4; what++) due("at(" + i + ", " + what + ")", x.at(i, what), states[i][what]);
        }
        due("behind the last", x.at(states.length, 0), BAD);
    }

    static int[] state(int node, int fact, int way, int open) {
        return new int[] {node, fact, way, open};
    }

    // ---- running

    /** Runs each test of a class; each of these promises must have some. */
    static void runAll(Class<?> tests, int first, int last) throws IllegalAccessException {
        Method[] methods = tests.getDeclaredMethods();
        Arrays.sort(methods, Comparator.comparing(Method::getName));
        int[] found = new int[35];
        int all = 0;
        for (Method m : methods) {
            if (!Modifier.isStatic(m.getModifiers()) || !m.getName().matches("promise\\d\\d_\\w+")) continue;
            test = m.getName();
            found[Integer.parseInt(test.substring(7, 9))]++;
            all++;
            try {
                m.invoke(null);
            } catch (InvocationTargetException e) {
                wrong++;
                System.out.println(test + ": threw " + e.getCause());
            }
        }
        for (int p = first; p <= last; p++) {
            if (found[p] == 0) {
                wrong++;
                System.out.println("promise " + p + " has no test");
            }
        }
        System.out.println(wrong == 0 ? "all " + all + " tests by sentence pass" : wrong + " answers are not as due");
        if (wrong != 0) System.exit(1);
    }
}
