import java.util.Arrays;

/** Facts that flow through programs of procedures along valid paths. */
public final class ValidPaths {
    public static final int BAD = -1, FULL = -2, FINDING = -3, STATE = -4, NONE = -5;

    private static final int NOTHING = 1, BEYOND = 2, CAST = 3, NOUGHT = 4, SIZE = 5;

    private static final int PROCEDURES = 8, NODES = 64, EDGES = 120, PLACES = 4;
    private static final int LOCALS = 8, PARAMETERS = 4, TURNS = 20000;

    private static final int ZERO = 0, LAST_GLOBAL = 4, FIRST_LOCAL = 5, FACTS = 13;
    private static final int ALL_GLOBALS = 30, ALL_FACTS = 8191;
    private static final int LEVELS = NODES * FACTS * FACTS;

    private static final int ENTER = 0, LEAVE = 1, SKIP = 2, SET = 3, COPY = 4, JOIN = 5;
    private static final int SOURCE = 6, SINK = 8, CALL = 9, RETURN = 10, KINDS = 11;
    /** The kind that each kind is right under. */
    private static final int[] ABOVE = {NONE, NONE, NONE, NONE, SET, COPY, SET, SET, NONE, NONE, NONE};

    /** What told() tells of a node, which is also how a node is held. */
    private static final int OWNER = 0, KIND = 1, X = 2, Y = 3, Z = 4, CALLEE = 5, RESULT = 6;
    private static final int ITS_RETURN = 7, ROOM = 8, ITS_CALL = 9, COLUMNS = 10;

    private static final int TAINT = 0, UNSET = 1, OWN = 2, CLIENTS = 3;
    private static final int WITHIN = 0, IN = 1, BACK = 2, PARTS = 3;

    private static final int BY_BEGINNING = 0, BY_EDGE = 1, BY_ACROSS = 2, BY_IN = 3, BY_BACK = 4;
    private static final int TRACK_STATES = 300;
    private static final long LONGEST = 1000000000000L, UNKNOWN = 2 * LONGEST;

    private final Program program = new Program();
    private final Flows flows = new Flows(program);
    private final Solving solving = new Solving(program, flows);
    private final Lengths lengths = new Lengths(program, solving);
    private final Track track = new Track(program, solving, lengths);
    private final Findings findings = new Findings();

    public ValidPaths() {
    }

    // ---- 1 programs

    public int procedure(int locals, int parameters) {
        if (!isWithin(locals, LOCALS + 1) || !isWithin(parameters, Math.min(locals, PARAMETERS) + 1)) {
            return BAD;
        }
        if (program.procedures >= PROCEDURES || !program.hasRoomFor(2)) {
            return FULL;
        }
        endSolving();
        return program.addProcedure(locals, parameters);
    }

    public int ends(int p, boolean leave) {
        if (!program.hasProcedure(p)) {
            return BAD;
        }
        return leave ? program.leaveOf(p) : program.enters[p];
    }

    public int outcome(int p, int x) {
        if (!program.hasProcedure(p)) {
            return BAD;
        }
        if (x != NONE && (x < FIRST_LOCAL || !program.hasVariable(p, x))) {
            return BAD;
        }
        endSolving();
        int was = program.outcomes[p];
        program.outcomes[p] = x;
        return was;
    }

    public int node(int p, int kind, int x, int y, int z) {
        if (!program.hasProcedure(p) || kind < SKIP || kind > SINK) {
            return BAD;
        }
        boolean hasX = kind != SKIP;
        boolean hasY = Program.isUnder(kind, COPY);
        boolean hasZ = kind == JOIN;
        if (hasX && !program.hasVariable(p, x) || hasY && !program.hasVariable(p, y)
                || hasZ && !program.hasVariable(p, z)) {
            return BAD;
        }
        if (!program.hasRoomFor(1)) {
            return FULL;
        }
        endSolving();
        int node = program.addNode(p, kind);
        program.tell(node, X, hasX ? x : NONE);
        program.tell(node, Y, hasY ? y : NONE);
        program.tell(node, Z, hasZ ? z : NONE);
        return node;
    }

    public int call(int p, int callee, int result, int n) {
        if (!program.hasProcedure(p) || !program.hasProcedure(callee) || n > PLACES) {
            return BAD;
        }
        if (result != NONE && !program.hasVariable(p, result)) {
            return BAD;
        }
        if (!program.hasRoomFor(2)) {
            return FULL;
        }
        if (n < 0) {
            return findings.answer(SIZE);
        }
        endSolving();
        return program.addCall(p, callee, result, n);
    }

    public int argument(int call, int i, int x) {
        if (!program.hasNode(call)) {
            return BAD;
        }
        if (x != NONE && !program.hasVariable(program.of(call, OWNER), x)) {
            return BAD;
        }
        if (!program.isCall(call)) {
            return findings.answer(CAST);
        }
        if (!isWithin(i, program.of(call, ROOM))) {
            return findings.answer(BEYOND);
        }
        endSolving();
        program.arguments[call * PLACES + i] = x;
        return 1;
    }

    public int copy(int call, int i, int other, int j, int n) {
        if (!program.hasNode(call) || !program.hasNode(other)) {
            return BAD;
        }
        if (program.of(call, OWNER) != program.of(other, OWNER)) {
            return BAD;
        }
        if (!program.isCall(call) || !program.isCall(other)) {
            return findings.answer(CAST);
        }
        if (!program.hasPlaces(call, i, n) || !program.hasPlaces(other, j, n)) {
            return findings.answer(BEYOND);
        }
        endSolving();
        System.arraycopy(program.arguments, call * PLACES + i, program.arguments, other * PLACES + j, n);
        return 1;
    }

    public int edge(int from, int to) {
        if (!program.hasNode(from) || !program.hasNode(to) || !program.mayLead(from, to)) {
            return BAD;
        }
        int there = program.edgeBetween(from, to);
        if (there != NONE) {
            return there;
        }
        if (program.edges >= EDGES) {
            return FULL;
        }
        endSolving();
        return program.addEdge(from, to);
    }

    public int told(int node, int what) {
        if (!program.hasNode(node) || !isWithin(what, COLUMNS)) {
            return BAD;
        }
        return program.of(node, what);
    }

    public int given(int call, int i) {
        if (!program.hasNode(call)) {
            return BAD;
        }
        if (!program.isCall(call)) {
            return findings.answer(CAST);
        }
        if (!isWithin(i, program.of(call, ROOM))) {
            return findings.answer(BEYOND);
        }
        return program.arguments[call * PLACES + i];
    }

    public int is(int node, int kind) {
        if (!program.hasNode(node) || !isWithin(kind, KINDS)) {
            return BAD;
        }
        return Program.isUnder(program.of(node, KIND), kind) ? 1 : 0;
    }

    // ---- 2 flows

    public int client(int c) {
        if (!isWithin(c, CLIENTS)) {
            return BAD;
        }
        endSolving();
        int was = flows.client;
        flows.client = c;
        return was;
    }

    public int flow(int node, int part, int fact, int bits) {
        if (fact == ZERO) {
            return BAD;
        }
        return tellRow(node, part, fact, bits);
    }

    public int zero(int node, int part, int bits) {
        return tellRow(node, part, ZERO, bits);
    }

    public int forget(int node, int part) {
        if (!program.hasNode(node) || !isWithin(part, PARTS)) {
            return BAD;
        }
        if (!program.hasPart(node, part)) {
            return findings.answer(CAST);
        }
        if (!flows.hasRows(node, part)) {
            return findings.answer(NOTHING);
        }
        endSolving();
        flows.dropRows(node, part);
        return 1;
    }

    public int begin(int bits) {
        if (!isWithin(bits, ALL_FACTS + 1)) {
            return BAD;
        }
        endSolving();
        int was = flows.begun;
        flows.begun = bits;
        return was;
    }

    public int goes(int node, int part, int fact) {
        if (!program.hasState(node, fact) || !isWithin(part, PARTS)) {
            return BAD;
        }
        if (!program.hasPart(node, part)) {
            return findings.answer(CAST);
        }
        return flows.targets(node, part, fact);
    }

    // ---- 3 solving

    public int solve(int n) {
        if (!isWithin(n, TURNS + 1)) {
            return BAD;
        }
        if (!program.isWhole()) {
            return STATE;
        }
        return solving.goTurns(n);
    }

    public int solved() {
        return solving.isDone() ? 1 : 0;
    }

    public int holds(int node) {
        if (!program.hasNode(node)) {
            return BAD;
        }
        return solving.isDone() ? solving.holding(node) : STATE;
    }

    public int edges(boolean summaries) {
        if (!solving.isDone()) {
            return STATE;
        }
        return summaries ? solving.countSummaries() : solving.found;
    }

    public int from(int node, int fact) {
        if (!program.hasState(node, fact)) {
            return BAD;
        }
        return solving.isDone() ? solving.reached(node, fact) : STATE;
    }

    public int summary(int call, int fact) {
        if (!program.hasState(call, fact)) {
            return BAD;
        }
        if (!program.isCall(call)) {
            return findings.answer(CAST);
        }
        return solving.isDone() ? solving.summed(call, fact) : STATE;
    }

    public int share(int fact) {
        if (!isWithin(fact, FACTS) || fact == ZERO) {
            return BAD;
        }
        if (!solving.isDone()) {
            return STATE;
        }
        int these = solving.countStates(1 << fact);
        int all = solving.countStates(ALL_FACTS - 1);
        if (all == 0) {
            return findings.answer(NOUGHT);
        }
        return 1000 * these / all;
    }

    public long length(int node, int fact) {
        if (!program.hasState(node, fact)) {
            return BAD;
        }
        if (!solving.isDone()) {
            return STATE;
        }
        if (!has(solving.holding(node), fact)) {
            return NONE;
        }
        lengths.find();
        return lengths.whole(node, fact);
    }

    public int track(int node, int fact) {
        if (!program.hasState(node, fact)) {
            return BAD;
        }
        if (!solving.isDone() || !has(solving.holding(node), fact)) {
            return STATE;
        }
        lengths.find();
        if (lengths.whole(node, fact) >= TRACK_STATES) {
            return FULL;
        }
        track.lay(node, fact);
        return track.size;
    }

    public int at(int i, int what) {
        if (!isWithin(i, track.size)) {
            return BAD;
        }
        switch (what) {
            case 0: return track.nodes[i];
            case 1: return track.facts[i];
            case 2: return track.ways[i];
            case 3: return track.open[i];
            default: return BAD;
        }
    }

    // ---- 4 reports

    public int reports() {
        if (!solving.isDone()) {
            return STATE;
        }
        int sum = 0;
        for (int node = 0; node < program.nodes; node++) {
            sum += Integer.bitCount(reportedAt(node));
        }
        return sum;
    }

    public int report(int i, int what) {
        if (!isWithin(what, 2)) {
            return BAD;
        }
        if (!solving.isDone()) {
            return STATE;
        }
        int ahead = 0;
        for (int node = 0; node < program.nodes; node++) {
            int reported = reportedAt(node);
            for (int x = 0; x < FACTS; x++) {
                if (has(reported, x)) {
                    if (ahead == i) {
                        return what == 0 ? node : x;
                    }
                    ahead++;
                }
            }
        }
        return NONE;
    }

    // ---- 5 what is told

    public int count(int what) {
        switch (what) {
            case 0: return program.procedures;
            case 1: return program.nodes;
            case 2: return program.edges;
            case 3: return program.calls;
            case 4: return solving.gone;
            case 5: return track.size;
            default: return BAD;
        }
    }

    public int finding() {
        return findings.latest;
    }

    public int findings(int f) {
        return f < NOTHING || f > SIZE ? BAD : findings.counts[f];
    }

    public long digest() {
        long h = program.digested(17);
        h = 31 * h + flows.client;
        if (solving.isDone()) {
            for (int node = 0; node < program.nodes; node++) {
                h = 31 * h + solving.holding(node);
            }
        }
        return h;
    }

    // ---- what several calls share

    private static boolean isWithin(int number, int bound) {
        return number >= 0 && number < bound;
    }

    private static boolean has(int bits, int fact) {
        return ((bits >> fact) & 1) != 0;
    }

    /** The number of the lowest bit of some. */
    private static int lowest(long bits) {
        return Long.bitCount((bits & -bits) - 1);
    }

    private void endSolving() {
        solving.end();
        lengths.end();
    }

    private int tellRow(int node, int part, int fact, int bits) {
        if (!program.hasState(node, fact) || !isWithin(part, PARTS) || !isWithin(bits, ALL_FACTS + 1)) {
            return BAD;
        }
        if (!program.hasPart(node, part)) {
            return findings.answer(CAST);
        }
        endSolving();
        flows.tellRow(node, part, fact, bits);
        return 1;
    }

    private int reportedAt(int node) {
        return flows.watched(node) & solving.holding(node);
    }

    /** The findings that were answered. */
    private static final class Findings {
        private final int[] counts = new int[SIZE + 1];
        private int latest;

        int answer(int which) {
            latest = which;
            counts[which]++;
            return FINDING;
        }
    }

    /** Procedures, nodes and edges as they were told. */
    private static final class Program {
        private final int[] locals = new int[PROCEDURES];
        private final int[] parameters = new int[PROCEDURES];
        private final int[] outcomes = new int[PROCEDURES];
        private final int[] enters = new int[PROCEDURES];
        private final int[] cells = new int[NODES * COLUMNS];
        private final int[] arguments = new int[NODES * PLACES];
        private final int[] sources = new int[EDGES];
        private final int[] targets = new int[EDGES];
        /** The edges once more, as bits by source, so that a turn need not read through all of them. */
        private final long[] leads = new long[NODES];
        private int procedures, nodes, edges, calls;

        static boolean isUnder(int kind, int above) {
            int up = kind;
            for (int i = 0; i < KINDS && isWithin(up, KINDS); i++) {
                if (up == above) {
                    return true;
                }
                up = ABOVE[up];
            }
            return false;
        }

        boolean hasProcedure(int p) {
            return isWithin(p, procedures);
        }

        boolean hasNode(int node) {
            return isWithin(node, nodes);
        }

        boolean hasState(int node, int fact) {
            return isWithin(node, nodes) && isWithin(fact, FACTS);
        }

        /** Whether a node's kind has one of the parts; only calls go in and come back. */
        boolean hasPart(int node, int part) {
            return part == WITHIN || isCall(node);
        }

        boolean hasRoomFor(int more) {
            return nodes + more <= NODES;
        }

        boolean hasVariable(int p, int x) {
            return x > ZERO && x < FIRST_LOCAL + locals[p];
        }

        boolean hasPlaces(int call, int first, int n) {
            int room = of(call, ROOM);
            return first >= 0 && first <= room && n >= 0 && n <= room - first;
        }

        int of(int node, int what) {
            return cells[node * COLUMNS + what];
        }

        void tell(int node, int what, int value) {
            cells[node * COLUMNS + what] = value;
        }

        boolean isCall(int node) {
            return of(node, KIND) == CALL;
        }

        boolean isCallOf(int node, int p) {
            return of(node, KIND) == CALL && of(node, CALLEE) == p;
        }

        int leaveOf(int p) {
            return enters[p] + 1;
        }

        int localsFrom(int p, int first) {
            return (1 << (FIRST_LOCAL + locals[p])) - (1 << (FIRST_LOCAL + first));
        }

        int addProcedure(int itsLocals, int itsParameters) {
            int p = procedures;
            procedures++;
            locals[p] = itsLocals;
            parameters[p] = itsParameters;
            outcomes[p] = NONE;
            enters[p] = addNode(p, ENTER);
            addNode(p, LEAVE);
            return p;
        }

        int addNode(int owner, int kind) {
            int node = nodes;
            nodes++;
            for (int what = 0; what < COLUMNS; what++) {
                tell(node, what, NONE);
            }
            tell(node, OWNER, owner);
            tell(node, KIND, kind);
            return node;
        }

        int addCall(int owner, int callee, int result, int room) {
            int call = addNode(owner, CALL);
            int back = addNode(owner, RETURN);
            tell(call, CALLEE, callee);
            tell(call, RESULT, result);
            tell(call, ITS_RETURN, back);
            tell(call, ROOM, room);
            tell(back, ITS_CALL, call);
            for (int i = 0; i < PLACES; i++) {
                arguments[call * PLACES + i] = NONE;
            }
            calls++;
            return call;
        }

        boolean mayLead(int from, int to) {
            int first = of(from, KIND);
            int second = of(to, KIND);
            return of(from, OWNER) == of(to, OWNER) && first != LEAVE && first != CALL
                    && second != ENTER && second != RETURN;
        }

        boolean leadsTo(int from, int to) {
            return ((leads[from] >> to) & 1) != 0;
        }

        int edgeBetween(int from, int to) {
            for (int i = 0; i < edges; i++) {
                if (sources[i] == from && targets[i] == to) {
                    return i;
                }
            }
            return NONE;
        }

        int addEdge(int from, int to) {
            int edge = edges;
            edges++;
            sources[edge] = from;
            targets[edge] = to;
            leads[from] |= 1L << to;
            return edge;
        }

        boolean isWhole() {
            for (int node = 0; node < nodes; node++) {
                if (isCall(node) && !isCallWhole(node)) {
                    return false;
                }
            }
            return procedures > 0;
        }

        private boolean isCallWhole(int call) {
            int room = of(call, ROOM);
            for (int i = 0; i < room; i++) {
                if (arguments[call * PLACES + i] == NONE) {
                    return false;
                }
            }
            return room == parameters[of(call, CALLEE)];
        }

        long digested(long start) {
            long h = start;
            for (int node = 0; node < nodes; node++) {
                for (int what = 0; what < COLUMNS; what++) {
                    h = 31 * h + of(node, what);
                }
                int room = isCall(node) ? of(node, ROOM) : 0;
                for (int i = 0; i < room; i++) {
                    h = 31 * h + arguments[node * PLACES + i];
                }
            }
            for (int i = 0; i < edges; i++) {
                h = 31 * h + sources[i];
                h = 31 * h + targets[i];
            }
            for (int p = 0; p < procedures; p++) {
                h = 31 * h + locals[p];
                h = 31 * h + parameters[p];
                h = 31 * h + outcomes[p];
            }
            return h;
        }
    }

    /** To which facts a fact goes, by the client that is there. */
    private static final class Flows {
        private static final int UNTOLD = -1;

        private final Program program;
        private final int[] rows = new int[NODES * PARTS * FACTS];
        private int client = TAINT;
        private int begun;

        Flows(Program program) {
            this.program = program;
            Arrays.fill(rows, UNTOLD);
        }

        private static int rowAt(int node, int part) {
            return (node * PARTS + part) * FACTS;
        }

        void tellRow(int node, int part, int fact, int bits) {
            rows[rowAt(node, part) + fact] = fact == ZERO ? bits | 1 : bits;
        }

        boolean hasRows(int node, int part) {
            int first = rowAt(node, part);
            for (int fact = 0; fact < FACTS; fact++) {
                if (rows[first + fact] != UNTOLD) {
                    return true;
                }
            }
            return false;
        }

        void dropRows(int node, int part) {
            int first = rowAt(node, part);
            Arrays.fill(rows, first, first + FACTS, UNTOLD);
        }

        /** The facts at the beginning; there must be a procedure. */
        int beginning() {
            if (client == UNSET) {
                return 1 | ALL_GLOBALS | program.localsFrom(0, 0);
            }
            return client == OWN ? 1 | begun : 1;
        }

        int targets(int node, int part, int fact) {
            if (client == OWN) {
                int row = rows[rowAt(node, part) + fact];
                return row == UNTOLD ? 1 << fact : row;
            }
            if (!program.isCall(node)) {
                return ofStatement(node, fact);
            }
            if (part == WITHIN) {
                return across(node, fact);
            }
            return part == IN ? into(node, fact) : back(node, fact);
        }

        private int ofStatement(int node, int fact) {
            int kind = program.of(node, KIND);
            int x = program.of(node, X);
            int bits = 1 << fact;
            if (!Program.isUnder(kind, SET)) {
                return bits;
            }
            if (fact == x) {
                bits = 0;
            }
            // y and z are none where the kind has none, so no fact is one of them there
            boolean isRead = fact == program.of(node, Y) || fact == program.of(node, Z);
            boolean isSource = kind == SOURCE && client == TAINT && fact == ZERO;
            return isRead || isSource ? bits | (1 << x) : bits;
        }

        private int across(int call, int fact) {
            boolean stays = fact == ZERO || fact > LAST_GLOBAL && fact != program.of(call, RESULT);
            return stays ? 1 << fact : 0;
        }

        private int into(int call, int fact) {
            int callee = program.of(call, CALLEE);
            int passed = Math.min(program.of(call, ROOM), program.parameters[callee]);
            int bits = fact <= LAST_GLOBAL ? 1 << fact : 0;
            for (int i = 0; i < passed; i++) {
                if (program.arguments[call * PLACES + i] == fact) {
                    bits |= 1 << (FIRST_LOCAL + i);
                }
            }
            if (client == UNSET && fact == ZERO) {
                bits |= program.localsFrom(callee, program.parameters[callee]);
            }
            return bits;
        }

        private int back(int call, int fact) {
            int result = program.of(call, RESULT);
            int bits = fact <= LAST_GLOBAL && fact != result ? 1 << fact : 0;
            if (result == NONE) {
                return bits;
            }
            int outcome = program.outcomes[program.of(call, CALLEE)];
            boolean isUnset = client == UNSET && outcome == NONE && fact == ZERO;
            return fact == outcome || isUnset ? bits | (1 << result) : bits;
        }

        /** The variables that are reported where they hold at a node. */
        int watched(int node) {
            int kind = program.of(node, KIND);
            if (client != OWN && kind == SINK) {
                return 1 << program.of(node, X);
            }
            return client == UNSET ? read(node, kind) : 0;
        }

        private int read(int node, int kind) {
            int bits = 0;
            if (Program.isUnder(kind, COPY)) {
                bits |= 1 << program.of(node, Y);
            }
            if (kind == JOIN) {
                bits |= 1 << program.of(node, Z);
            }
            int room = kind == CALL ? program.of(node, ROOM) : 0;
            for (int i = 0; i < room; i++) {
                int x = program.arguments[node * PLACES + i];
                bits |= x == NONE ? 0 : 1 << x;
            }
            return bits;
        }
    }

    /** Path edges, found in turns; summaries follow from them. */
    private static final class Solving {
        private final Program program;
        private final Flows flows;
        /** The flows of this solving: each is asked for many times. */
        private final int[] steps = new int[NODES * PARTS * FACTS];
        /** By a node and a fact at its procedure's enter: the facts that path edges lead to. */
        private final int[] reach = new int[NODES * FACTS];
        /** All path edges in the order of their finding, those ahead of gone were gone on from. */
        private final int[] pathEdges = new int[LEVELS];
        private int found, gone;
        private boolean isBegun;

        Solving(Program program, Flows flows) {
            this.program = program;
            this.flows = flows;
        }

        void end() {
            isBegun = false;
            found = 0;
            gone = 0;
        }

        boolean isDone() {
            return isBegun && gone == found;
        }

        int goTurns(int n) {
            if (!isBegun) {
                start();
            }
            int turns = Math.min(n, LEVELS);
            for (int i = 0; i < turns; i++) {
                if (gone >= found) {
                    return i;
                }
                int next = pathEdges[gone];
                gone++;
                goOn(next / (FACTS * FACTS), next / FACTS % FACTS, next % FACTS);
            }
            return turns;
        }

        private void start() {
            isBegun = true;
            Arrays.fill(reach, 0);
            for (int node = 0; node < program.nodes; node++) {
                int parts = program.isCall(node) ? PARTS : 1;
                for (int i = 0; i < parts * FACTS; i++) {
                    steps[node * PARTS * FACTS + i] = flows.targets(node, i / FACTS, i % FACTS);
                }
            }
            addEntries(0, flows.beginning());
        }

        private void addEntries(int p, int bits) {
            for (int d = 0; d < FACTS; d++) {
                if (has(bits, d)) {
                    add(program.enters[p], d, 1 << d);
                }
            }
        }

        private void add(int node, int d, int bits) {
            int fresh = bits & ~reached(node, d);
            reach[node * FACTS + d] |= fresh;
            for (int e = 0; e < FACTS && fresh != 0; e++) {
                if (has(fresh, e) && found < LEVELS) {
                    pathEdges[found] = (node * FACTS + d) * FACTS + e;
                    found++;
                }
            }
        }

        private void goOn(int node, int d, int e) {
            int kind = program.of(node, KIND);
            if (kind == CALL) {
                goOnFromCall(node, d, e);
            } else if (kind == LEAVE) {
                goOnFromLeave(program.of(node, OWNER), d, e);
            } else {
                int bits = step(node, WITHIN, e);
                long left = program.leads[node];
                for (int i = 0; i < NODES && left != 0; i++) {
                    add(lowest(left), d, bits);
                    left &= left - 1;
                }
            }
        }

        private void goOnFromCall(int call, int d, int e) {
            int behind = program.of(call, ITS_RETURN);
            add(behind, d, step(call, WITHIN, e));
            addEntries(program.of(call, CALLEE), step(call, IN, e));
            add(behind, d, through(call, e));
        }

        private void goOnFromLeave(int p, int d, int e) {
            for (int call = 0; call < program.nodes; call++) {
                if (program.isCallOf(call, p)) {
                    comeBack(call, enteringBy(call, d), step(call, BACK, e));
                }
            }
        }

        private void comeBack(int call, int entering, int bits) {
            for (int d = 0; d < FACTS; d++) {
                if ((reached(call, d) & entering) != 0) {
                    add(program.of(call, ITS_RETURN), d, bits);
                }
            }
        }

        /** The facts at a call that go in to a fact. */
        private int enteringBy(int call, int entry) {
            int bits = 0;
            for (int e = 0; e < FACTS; e++) {
                if (has(step(call, IN, e), entry)) {
                    bits |= 1 << e;
                }
            }
            return bits;
        }

        /** The facts at a call's return that a fact at it comes to by the procedure called, as far as is found. */
        private int through(int call, int fact) {
            int leave = program.leaveOf(program.of(call, CALLEE));
            int entries = step(call, IN, fact);
            int left = 0;
            for (int d = 0; d < FACTS; d++) {
                if (has(entries, d)) {
                    left |= reached(leave, d);
                }
            }
            int bits = 0;
            for (int e = 0; e < FACTS; e++) {
                if (has(left, e)) {
                    bits |= step(call, BACK, e);
                }
            }
            return bits;
        }

        int step(int node, int part, int fact) {
            return steps[(node * PARTS + part) * FACTS + fact];
        }

        int reached(int node, int d) {
            return reach[node * FACTS + d];
        }

        int holding(int node) {
            int bits = 0;
            for (int d = 0; d < FACTS; d++) {
                bits |= reached(node, d);
            }
            return bits;
        }

        int summed(int call, int fact) {
            return has(holding(call), fact) ? through(call, fact) : 0;
        }

        int countSummaries() {
            int sum = 0;
            for (int call = 0; call < program.nodes; call++) {
                for (int d = 0; d < FACTS && program.isCall(call); d++) {
                    sum += Integer.bitCount(summed(call, d));
                }
            }
            return sum;
        }

        int countStates(int facts) {
            int sum = 0;
            for (int node = 0; node < program.nodes; node++) {
                sum += Integer.bitCount(holding(node) & facts);
            }
            return sum;
        }

        boolean isBeginning(int p, int fact) {
            return p == 0 && has(flows.beginning(), fact);
        }
    }

    /** Level paths by their shortest lengths so far; those not yet taken are in a heap, the shortest first. */
    private static final class Shortest {
        private static final int OUTSIDE = -1;

        private final long[] lengths = new long[LEVELS];
        private final int[] heap = new int[LEVELS];
        private final int[] places = new int[LEVELS];
        private int size;

        void clear(int levels) {
            Arrays.fill(lengths, 0, levels, UNKNOWN);
            Arrays.fill(places, 0, levels, OUTSIDE);
            size = 0;
        }

        void offer(int level, long length) {
            if (length >= lengths[level]) {
                return;
            }
            lengths[level] = length;
            int place = places[level];
            if (place == OUTSIDE) {
                place = size;
                size++;
            }
            while (place > 0 && lengths[heap[(place - 1) / 2]] > length) {
                int up = (place - 1) / 2;
                put(heap[up], place);
                place = up;
            }
            put(level, place);
        }

        int take() {
            if (size == 0) {
                return NONE;
            }
            int first = heap[0];
            places[first] = OUTSIDE;
            size--;
            if (size > 0) {
                sink(heap[size]);
            }
            return first;
        }

        private void sink(int level) {
            int place = 0;
            int down = 1;
            while (down < size) {
                if (down + 1 < size && lengths[heap[down + 1]] < lengths[heap[down]]) {
                    down++;
                }
                if (lengths[heap[down]] >= lengths[level]) {
                    break;
                }
                put(heap[down], place);
                place = down;
                down = 2 * place + 1;
            }
            put(level, place);
        }

        private void put(int level, int place) {
            heap[place] = level;
            places[level] = place;
        }
    }

    /** How many steps the shortest paths have, of what a done solving has found. */
    private static final class Lengths {
        private final Program program;
        private final Solving solving;
        private final Shortest shortest = new Shortest();
        private final long[] entries = new long[PROCEDURES * FACTS];
        private final boolean[] isTaken = new boolean[PROCEDURES * FACTS];
        private final long[] wholes = new long[NODES * FACTS];
        private boolean isFound;

        Lengths(Program program, Solving solving) {
            this.program = program;
            this.solving = solving;
        }

        void end() {
            isFound = false;
        }

        long whole(int node, int fact) {
            return wholes[node * FACTS + fact];
        }

        long entry(int p, int fact) {
            return entries[p * FACTS + fact];
        }

        long level(int node, int d, int e) {
            return shortest.lengths[(node * FACTS + d) * FACTS + e];
        }

        void find() {
            if (isFound) {
                return;
            }
            isFound = true;
            offerEnters();
            for (int i = 0; i < LEVELS; i++) {
                int next = shortest.take();
                if (next == NONE) {
                    break;
                }
                goOn(next / (FACTS * FACTS), next / FACTS % FACTS, next % FACTS);
            }
            findEntries();
            findWholes();
        }

        /** A sum of known lengths; above the longest that is told all are alike. */
        private static long sum(long a, long b) {
            return Math.min(a + b, LONGEST);
        }

        private void offerEnters() {
            shortest.clear(program.nodes * FACTS * FACTS);
            for (int p = 0; p < program.procedures; p++) {
                for (int d = 0; d < FACTS; d++) {
                    int enter = program.enters[p];
                    offerAll(enter, d, solving.reached(enter, d), 0);
                }
            }
        }

        private void offerAll(int node, int d, int bits, long length) {
            for (int e = 0; e < FACTS; e++) {
                if (has(bits, e)) {
                    shortest.offer((node * FACTS + d) * FACTS + e, length);
                }
            }
        }

        private void goOn(int node, int d, int e) {
            int kind = program.of(node, KIND);
            if (kind == CALL) {
                goOnFromCall(node, d, e);
            } else if (kind == LEAVE) {
                goOnFromLeave(node, d, e);
            } else {
                int bits = solving.step(node, WITHIN, e);
                long length = sum(level(node, d, e), 1);
                long left = program.leads[node];
                for (int i = 0; i < NODES && left != 0; i++) {
                    offerAll(lowest(left), d, bits, length);
                    left &= left - 1;
                }
            }
        }

        private void goOnFromCall(int call, int d, int e) {
            int behind = program.of(call, ITS_RETURN);
            int leave = program.leaveOf(program.of(call, CALLEE));
            int inside = solving.step(call, IN, e);
            offerAll(behind, d, solving.step(call, WITHIN, e), sum(level(call, d, e), 1));
            long around = sum(level(call, d, e), 2);
            for (int g = 0; g < FACTS; g++) {
                for (int h = 0; h < FACTS && has(inside, g); h++) {
                    if (level(leave, g, h) != UNKNOWN) {
                        offerAll(behind, d, solving.step(call, BACK, h), sum(around, level(leave, g, h)));
                    }
                }
            }
        }

        private void goOnFromLeave(int leave, int g, int h) {
            long around = sum(level(leave, g, h), 2);
            for (int call = 0; call < program.nodes; call++) {
                if (program.isCallOf(call, program.of(leave, OWNER))) {
                    comeBack(call, g, solving.step(call, BACK, h), around);
                }
            }
        }

        private void comeBack(int call, int g, int bits, long around) {
            int behind = program.of(call, ITS_RETURN);
            for (int e = 0; e < FACTS; e++) {
                boolean enters = has(solving.step(call, IN, e), g);
                for (int d = 0; d < FACTS && enters; d++) {
                    if (level(call, d, e) != UNKNOWN) {
                        offerAll(behind, d, bits, sum(around, level(call, d, e)));
                    }
                }
            }
        }

        private void findEntries() {
            int all = program.procedures * FACTS;
            for (int i = 0; i < all; i++) {
                entries[i] = solving.isBeginning(i / FACTS, i % FACTS) ? 0 : UNKNOWN;
                isTaken[i] = false;
            }
            for (int i = 0; i < all; i++) {
                int next = nearestEntry(all);
                if (next == NONE) {
                    return;
                }
                isTaken[next] = true;
                enterFrom(next / FACTS, next % FACTS);
            }
        }

        private int nearestEntry(int all) {
            int nearest = NONE;
            long length = UNKNOWN;
            for (int i = 0; i < all; i++) {
                if (!isTaken[i] && entries[i] < length) {
                    nearest = i;
                    length = entries[i];
                }
            }
            return nearest;
        }

        private void enterFrom(int p, int d) {
            for (int call = 0; call < program.nodes; call++) {
                boolean isHere = program.isCall(call) && program.of(call, OWNER) == p;
                for (int e = 0; e < FACTS && isHere; e++) {
                    if (level(call, d, e) != UNKNOWN) {
                        long length = sum(sum(entry(p, d), level(call, d, e)), 1);
                        offerEntries(program.of(call, CALLEE), solving.step(call, IN, e), length);
                    }
                }
            }
        }

        private void offerEntries(int p, int bits, long length) {
            for (int g = 0; g < FACTS; g++) {
                if (has(bits, g) && length < entry(p, g)) {
                    entries[p * FACTS + g] = length;
                }
            }
        }

        private void findWholes() {
            for (int node = 0; node < program.nodes; node++) {
                for (int e = 0; e < FACTS; e++) {
                    long least = UNKNOWN;
                    for (int d = 0; d < FACTS; d++) {
                        least = Math.min(least, by(node, d, e));
                    }
                    wholes[node * FACTS + e] = least;
                }
            }
        }

        /** The length to a state by way of a fact at its procedure's enter. */
        long by(int node, int d, int e) {
            long first = entry(program.of(node, OWNER), d);
            long second = level(node, d, e);
            return first == UNKNOWN || second == UNKNOWN ? UNKNOWN : sum(first, second);
        }
    }

    /** The latest track; it is laid from its end back to the beginning. */
    private static final class Track {
        private final Program program;
        private final Solving solving;
        private final Lengths lengths;
        private final int[] nodes = new int[TRACK_STATES];
        private final int[] facts = new int[TRACK_STATES];
        private final int[] ways = new int[TRACK_STATES];
        private final int[] open = new int[TRACK_STATES];
        private int size;
        /** Calls that the track has come back from and is inside of now: node, fact, fact at the enter. */
        private final int[] calls = new int[TRACK_STATES];
        private final int[] callFacts = new int[TRACK_STATES];
        private final int[] callEntries = new int[TRACK_STATES];
        private int depth;
        /** The state that is laid now, and the fact at its procedure's enter. */
        private int node, fact, entry;

        Track(Program program, Solving solving, Lengths lengths) {
            this.program = program;
            this.solving = solving;
            this.lengths = lengths;
        }

        /** The state must hold, and its track be short enough. */
        void lay(int lastNode, int lastFact) {
            size = (int) lengths.whole(lastNode, lastFact) + 1;
            depth = 0;
            moveOutside(lastNode, lastFact);
            for (int i = size - 1; i >= 0; i--) {
                nodes[i] = node;
                facts[i] = fact;
                ways[i] = goBack();
            }
            countOpen();
        }

        private void countOpen() {
            int now = 0;
            for (int i = 0; i < size; i++) {
                if (ways[i] == BY_IN) {
                    now++;
                } else if (ways[i] == BY_BACK) {
                    now--;
                }
                open[i] = now;
            }
        }

        private void move(int toNode, int toFact) {
            node = toNode;
            fact = toFact;
        }

        /** To a state that no laid call is around of: its track goes by the least fact that it can. */
        private void moveOutside(int toNode, int toFact) {
            move(toNode, toFact);
            for (int d = 0; d < FACTS; d++) {
                long length = lengths.by(node, d, fact);
                if (length != UNKNOWN && length == lengths.whole(node, fact)) {
                    entry = d;
                    return;
                }
            }
        }

        /** Moves to the state before, and tells by what step this one was come to. */
        private int goBack() {
            int kind = program.of(node, KIND);
            if (kind == ENTER) {
                return depth > 0 ? goBackToLaidCall() : goBackToCall();
            }
            if (kind != RETURN) {
                return goBackAlongEdge();
            }
            return goBackAcross() ? BY_ACROSS : goBackToLeave();
        }

        private int goBackToLaidCall() {
            depth--;
            entry = callEntries[depth];
            move(calls[depth], callFacts[depth]);
            return BY_IN;
        }

        private int goBackToCall() {
            int p = program.of(node, OWNER);
            if (solving.isBeginning(p, fact)) {
                return BY_BEGINNING;
            }
            long before = lengths.entry(p, fact) - 1;
            for (int call = 0; call < program.nodes; call++) {
                boolean isOfThis = program.isCallOf(call, p);
                for (int e = 0; e < FACTS && isOfThis; e++) {
                    if (lengths.whole(call, e) == before && has(solving.step(call, IN, e), fact)) {
                        moveOutside(call, e);
                        return BY_IN;
                    }
                }
            }
            return BY_BEGINNING;
        }

        private int goBackAlongEdge() {
            for (int m = 0; m < program.nodes; m++) {
                if (program.leadsTo(m, node) && goBackWithin(m)) {
                    break;
                }
            }
            return BY_EDGE;
        }

        private boolean goBackAcross() {
            return goBackWithin(program.of(node, ITS_CALL));
        }

        private boolean goBackWithin(int m) {
            long before = lengths.level(node, entry, fact) - 1;
            for (int e = 0; e < FACTS; e++) {
                if (lengths.level(m, entry, e) == before && has(solving.step(m, WITHIN, e), fact)) {
                    move(m, e);
                    return true;
                }
            }
            return false;
        }

        private int goBackToLeave() {
            int call = program.of(node, ITS_CALL);
            long before = lengths.level(node, entry, fact) - 2;
            for (int e = 0; e < FACTS; e++) {
                long first = lengths.level(call, entry, e);
                int inside = first == UNKNOWN ? 0 : solving.step(call, IN, e);
                for (int g = 0; g < FACTS; g++) {
                    if (has(inside, g) && goBackInto(call, e, g, before - first)) {
                        return BY_BACK;
                    }
                }
            }
            return BY_BACK;
        }

        private boolean goBackInto(int call, int e, int g, long length) {
            int leave = program.leaveOf(program.of(call, CALLEE));
            for (int h = 0; h < FACTS; h++) {
                boolean isIt = lengths.level(leave, g, h) == length && has(solving.step(call, BACK, h), fact);
                if (isIt && depth < TRACK_STATES) {
                    calls[depth] = call;
                    callFacts[depth] = e;
                    callEntries[depth] = entry;
                    depth++;
                    entry = g;
                    move(leave, h);
                    return true;
                }
            }
            return false;
        }
    }
}
