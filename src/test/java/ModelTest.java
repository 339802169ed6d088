import java.util.ArrayList;
import java.util.Arrays;
import java.util.HashMap;
import java.util.HashSet;
import java.util.List;
import java.util.Map;
import java.util.Random;
import java.util.Set;
import java.util.TreeSet;

/** Random runs of calls, each answered by a slow model that is written straight from the document. */
public final class ModelTest {
    static final int BAD = -1, FULL = -2, FINDING = -3, STATE = -4, NONE = -5;
    static final long FAR = Long.MAX_VALUE / 4, CAP = 1000000000000L;

    static int wrong;

    // ---------------------------------------------------------------- the model

    static final class Proc {
        int locals, parameters, outcome = NONE, enter, leave;
    }

    static final class Node {
        int proc, kind, x = NONE, y = NONE, z = NONE, callee = NONE, result = NONE, ret = NONE, room = NONE, call = NONE;
        int[] args = new int[0];
        Map<Integer, Map<Integer, Integer>> rows = new HashMap<>();
    }

    static final class Model {
        final List<Proc> procs = new ArrayList<>();
        final List<Node> nodes = new ArrayList<>();
        final List<int[]> edges = new ArrayList<>();
        int client, begin, latest;
        final int[] found = new int[6];
        long turns;
        boolean begun, solved;
        List<int[]> track = new ArrayList<>();
        // of a solving
        long[][][] level;          // node, fact at the enter, fact
        long[][] length;           // node, fact
        long pathEdges;

        int finding(int f) { latest = f; found[f]++; return FINDING; }
        boolean noProc(int p) { return p < 0 || p >= procs.size(); }
        boolean noNode(int n) { return n < 0 || n >= nodes.size(); }
        boolean noVar(int p, int x) { return !(x >= 1 && x <= 4) && !(x >= 5 && x < 5 + procs.get(p).locals); }
        void changed() { begun = false; solved = false; turns = 0; }
        int newNode(int p, int kind) {
            Node n = new Node();
            n.proc = p; n.kind = kind;
            nodes.add(n);
            return nodes.size() - 1;
        }

        int procedure(int locals, int parameters) {
            if (locals < 0 || locals > 8 || parameters < 0 || parameters > 4 || parameters > locals) return BAD;
            if (procs.size() == 8 || nodes.size() > 62) return FULL;
            changed();
            Proc p = new Proc();
            p.locals = locals; p.parameters = parameters;
            procs.add(p);
            p.enter = newNode(procs.size() - 1, 0);
            p.leave = newNode(procs.size() - 1, 1);
            return procs.size() - 1;
        }
        int ends(int p, boolean leave) { return noProc(p) ? BAD : leave ? procs.get(p).leave : procs.get(p).enter; }
        int outcome(int p, int x) {
            if (noProc(p) || x != NONE && (x < 5 || noVar(p, x))) return BAD;
            changed();
            int was = procs.get(p).outcome;
            procs.get(p).outcome = x;
            return was;
        }
        int node(int p, int kind, int x, int y, int z) {
            if (noProc(p) || kind < 2 || kind > 8) return BAD;
            if (kind >= 3 && noVar(p, x)) return BAD;
            if ((kind == 4 || kind == 5) && noVar(p, y)) return BAD;
            if (kind == 5 && noVar(p, z)) return BAD;
            if (nodes.size() == 64) return FULL;
            changed();
            int n = newNode(p, kind);
            if (kind >= 3) nodes.get(n).x = x;
            if (kind == 4 || kind == 5) nodes.get(n).y = y;
            if (kind == 5) nodes.get(n).z = z;
            return n;
        }
        int call(int p, int callee, int result, int n) {
            if (noProc(p) || noProc(callee) || n > 4 || result != NONE && noVar(p, result)) return BAD;
            if (nodes.size() > 62) return FULL;
            if (n < 0) return finding(5);
            changed();
            int c = newNode(p, 9), r = newNode(p, 10);
            Node node = nodes.get(c);
            node.callee = callee; node.result = result; node.ret = r; node.room = n;
            node.args = new int[n];
            Arrays.fill(node.args, NONE);
            nodes.get(r).call = c;
            return c;
        }
        int argument(int call, int i, int x) {
            if (noNode(call) || x != NONE && noVar(nodes.get(call).proc, x)) return BAD;
            Node c = nodes.get(call);
            if (c.kind != 9) return finding(3);
            if (i < 0 || i >= c.room) return finding(2);
            changed();
            c.args[i] = x;
            return 1;
        }
        int copy(int call, int i, int other, int j, int n) {
            if (noNode(call) || noNode(other)) return BAD;
            Node a = nodes.get(call), b = nodes.get(other);
            if (a.proc != b.proc) return BAD;
            if (a.kind != 9 || b.kind != 9) return finding(3);
            if (i < 0 || j < 0 || n < 0 || (long) i + n > a.room || (long) j + n > b.room) return finding(2);
            changed();
            int[] ahead = a.args.clone();
            for (int k = 0; k < n; k++) b.args[j + k] = ahead[i + k];
            return 1;
        }
        int edge(int from, int to) {
            if (noNode(from) || noNode(to)) return BAD;
            Node a = nodes.get(from), b = nodes.get(to);
            if (a.proc != b.proc || a.kind == 1 || a.kind == 9 || b.kind == 0 || b.kind == 10) return BAD;
            for (int k = 0; k < edges.size(); k++) {
                if (edges.get(k)[0] == from && edges.get(k)[1] == to) return k;
            }
            if (edges.size() == 120) return FULL;
            changed();
            edges.add(new int[] {from, to});
            return edges.size() - 1;
        }
        int told(int node, int what) {
            if (noNode(node) || what < 0 || what > 9) return BAD;
            Node n = nodes.get(node);
            return new int[] {n.proc, n.kind, n.x, n.y, n.z, n.callee, n.result, n.ret, n.room, n.call}[what];
        }
        int given(int call, int i) {
            if (noNode(call)) return BAD;
            if (nodes.get(call).kind != 9) return finding(3);
            if (i < 0 || i >= nodes.get(call).room) return finding(2);
            return nodes.get(call).args[i];
        }
        boolean under(int kind, int above) {
            if (kind == above) return true;
            switch (kind) {
                case 4: case 6: case 7: return under(3, above);
                case 5: return under(4, above);
                default: return false;
            }
        }
        int is(int node, int kind) {
            if (noNode(node) || kind < 0 || kind > 10) return BAD;
            return under(nodes.get(node).kind, kind) ? 1 : 0;
        }

        // ---- flows

        int client(int c) {
            if (c < 0 || c > 2) return BAD;
            changed();
            int was = client;
            client = c;
            return was;
        }
        int row(int node, int part, int fact, int bits) {
            if (noNode(node) || part < 0 || part > 2 || bits < 0 || bits > 8191) return BAD;
            if (part > 0 && nodes.get(node).kind != 9) return finding(3);
            changed();
            nodes.get(node).rows.computeIfAbsent(part, k -> new HashMap<>()).put(fact, bits);
            return 1;
        }
        int flow(int node, int part, int fact, int bits) {
            return fact < 1 || fact > 12 ? BAD : row(node, part, fact, bits);
        }
        int zero(int node, int part, int bits) { return row(node, part, 0, bits); }
        int forget(int node, int part) {
            if (noNode(node) || part < 0 || part > 2) return BAD;
            if (part > 0 && nodes.get(node).kind != 9) return finding(3);
            if (!nodes.get(node).rows.containsKey(part)) return finding(1);
            changed();
            nodes.get(node).rows.remove(part);
            return 1;
        }
        int begin(int bits) {
            if (bits < 0 || bits > 8191) return BAD;
            changed();
            int was = begin;
            begin = bits;
            return was;
        }
        int goes(int node, int part, int fact) {
            if (noNode(node) || part < 0 || part > 2 || fact < 0 || fact > 12) return BAD;
            if (part > 0 && nodes.get(node).kind != 9) return finding(3);
            int bits = 0;
            for (int e : to(nodes.get(node), part, fact)) bits |= 1 << e;
            return bits;
        }
        /** Each fact's targets, told and told over as the document tells them. */
        Set<Integer> to(Node n, int part, int fact) {
            if (client == 2) return own(n, part, fact);
            List<Set<Integer>> t = new ArrayList<>();
            for (int k = 0; k <= 12; k++) t.add(new TreeSet<>(List.of(k)));
            if (n.kind >= 3 && n.kind <= 7) statement(n, n.kind, t);
            if (n.kind == 9 && part == 0) {
                for (int k = 1; k <= 4; k++) t.get(k).clear();
                if (n.result != NONE) t.get(n.result).clear();
            }
            if (n.kind == 9 && part == 1) {
                Proc q = procs.get(n.callee);
                for (int k = 5; k <= 12; k++) t.get(k).clear();
                for (int i = 0; i < n.room && i < q.parameters; i++) {
                    if (n.args[i] != NONE) t.get(n.args[i]).add(5 + i);
                }
                for (int i = q.parameters; i < q.locals && client == 1; i++) t.get(0).add(5 + i);
            }
            if (n.kind == 9 && part == 2) {
                Proc q = procs.get(n.callee);
                for (int k = 5; k <= 12; k++) t.get(k).clear();
                if (n.result >= 1 && n.result <= 4) t.get(n.result).clear();
                if (n.result != NONE && q.outcome != NONE) t.get(q.outcome).add(n.result);
                if (n.result != NONE && q.outcome == NONE && client == 1) t.get(0).add(n.result);
            }
            return t.get(fact);
        }
        void statement(Node n, int kind, List<Set<Integer>> t) {
            switch (kind) {
                case 3: case 7:
                    t.get(n.x).clear();
                    break;
                case 4:
                    if (n.y != n.x) {
                        statement(n, 3, t);
                        t.get(n.y).add(n.x);
                    }
                    break;
                case 5:
                    statement(n, 4, t);
                    t.get(n.z).add(n.x);
                    break;
                case 6:
                    statement(n, 3, t);
                    if (client == 0) t.get(0).add(n.x);
                    break;
                default:
            }
        }
        Set<Integer> own(Node n, int part, int fact) {
            Set<Integer> s = new TreeSet<>();
            Integer bits = n.rows.getOrDefault(part, Map.of()).get(fact);
            for (int k = 0; k <= 12; k++) {
                if (bits == null ? k == fact : (bits >> k & 1) == 1) s.add(k);
            }
            if (fact == 0) s.add(0);
            return s;
        }
        boolean isBeginning(int p, int d) {
            if (p != 0) return false;
            if (d == 0) return true;
            if (client == 1) return d <= 4 || d < 5 + procs.get(0).locals;
            return client == 2 && (begin >> d & 1) == 1;
        }

        // ---- solving, all at once and over again till nothing is new

        int solve(int n) {
            if (n < 0 || n > 20000) return BAD;
            if (procs.isEmpty()) return STATE;
            for (Node c : nodes) {
                if (c.kind == 9 && c.room != procs.get(c.callee).parameters) return STATE;
                for (int x : c.args) if (x == NONE) return STATE;
            }
            if (!begun) {
                begun = true;
                turns = 0;
                findAll();
            }
            long gone = Math.min(n, pathEdges - turns);
            turns += gone;
            solved = turns == pathEdges;
            return (int) gone;
        }
        boolean better(long[] row, int i, long value) {
            long v = Math.min(value, CAP);
            if (v >= row[i]) return false;
            row[i] = v;
            return true;
        }
        int[][][] steps;
        void findAll() {
            int count = nodes.size();
            steps = new int[count][3][13];
            level = new long[count][13][13];
            for (int n = 0; n < count; n++) {
                for (long[] r : level[n]) Arrays.fill(r, FAR);
                for (int part = 0; part < (nodes.get(n).kind == 9 ? 3 : 1); part++) {
                    for (int f = 0; f <= 12; f++) {
                        for (int e : to(nodes.get(n), part, f)) steps[n][part][f] |= 1 << e;
                    }
                }
            }
            for (int d = 0; d <= 12; d++) if (isBeginning(0, d)) level[procs.get(0).enter][d][d] = 0;
            boolean more = true;
            while (more) {
                more = false;
                for (int n = 0; n < count; n++) {
                    for (int d = 0; d <= 12; d++) for (int e = 0; e <= 12; e++) {
                        if (level[n][d][e] < FAR) more |= relax(n, d, e);
                    }
                }
            }
            pathEdges = 0;
            for (long[][] a : level) for (long[] b : a) for (long c : b) if (c < FAR) pathEdges++;
            findLengths();
        }
        boolean relax(int n, int d, int e) {
            boolean more = false;
            Node node = nodes.get(n);
            long here = level[n][d][e];
            for (int[] edge : edges) {
                for (int f = 0; f <= 12 && edge[0] == n; f++) {
                    if ((steps[n][0][e] >> f & 1) == 1) more |= better(level[edge[1]][d], f, here + 1);
                }
            }
            if (node.kind != 9) return more;
            Proc q = procs.get(node.callee);
            for (int f = 0; f <= 12; f++) {
                if ((steps[n][0][e] >> f & 1) == 1) more |= better(level[node.ret][d], f, here + 1);
                if ((steps[n][1][e] >> f & 1) == 0) continue;
                more |= better(level[q.enter][f], f, 0);
                for (int h = 0; h <= 12; h++) for (int k = 0; k <= 12; k++) {
                    if (level[q.leave][f][h] < FAR && (steps[n][2][h] >> k & 1) == 1) {
                        more |= better(level[node.ret][d], k, here + 2 + level[q.leave][f][h]);
                    }
                }
            }
            return more;
        }
        void findLengths() {
            int count = nodes.size();
            length = new long[count][13];
            for (long[] r : length) Arrays.fill(r, FAR);
            for (int d = 0; d <= 12; d++) if (isBeginning(0, d)) length[procs.get(0).enter][d] = 0;
            boolean more = true;
            while (more) {
                more = false;
                for (int n = 0; n < count; n++) for (int e = 0; e <= 12; e++) {
                    Node node = nodes.get(n);
                    for (int d = 0; d <= 12; d++) {
                        long first = length[procs.get(node.proc).enter][d];
                        if (first < FAR && level[n][d][e] < FAR) more |= better(length[n], e, first + level[n][d][e]);
                    }
                    for (int f = 0; f <= 12 && node.kind == 9 && length[n][e] < FAR; f++) {
                        if ((steps[n][1][e] >> f & 1) == 1) {
                            more |= better(length[procs.get(node.callee).enter], f, length[n][e] + 1);
                        }
                    }
                }
            }
        }
        int solved() { return solved ? 1 : 0; }
        int holding(int n) {
            int bits = 0;
            for (int e = 0; e <= 12; e++) if (length[n][e] < FAR) bits |= 1 << e;
            return bits;
        }
        int holds(int n) { return noNode(n) ? BAD : !solved ? STATE : holding(n); }
        int summed(int c, int f) {
            if (length[c][f] >= FAR) return 0;
            int bits = 0;
            Node n = nodes.get(c);
            for (int g = 0; g <= 12; g++) for (int h = 0; h <= 12; h++) {
                if ((steps[c][1][f] >> g & 1) == 1 && level[procs.get(n.callee).leave][g][h] < FAR) bits |= steps[c][2][h];
            }
            return bits;
        }
        int edges(boolean summaries) {
            if (!solved) return STATE;
            if (!summaries) return (int) pathEdges;
            int sum = 0;
            for (int c = 0; c < nodes.size(); c++) {
                for (int f = 0; f <= 12 && nodes.get(c).kind == 9; f++) sum += Integer.bitCount(summed(c, f));
            }
            return sum;
        }
        int from(int n, int f) {
            if (noNode(n) || f < 0 || f > 12) return BAD;
            if (!solved) return STATE;
            int bits = 0;
            for (int e = 0; e <= 12; e++) if (level[n][f][e] < FAR) bits |= 1 << e;
            return bits;
        }
        int summary(int c, int f) {
            if (noNode(c) || f < 0 || f > 12) return BAD;
            if (nodes.get(c).kind != 9) return finding(3);
            return solved ? summed(c, f) : STATE;
        }
        int share(int f) {
            if (f < 1 || f > 12) return BAD;
            if (!solved) return STATE;
            int these = 0, all = 0;
            for (int n = 0; n < nodes.size(); n++) for (int e = 1; e <= 12; e++) {
                if (length[n][e] < FAR) {
                    all++;
                    if (e == f) these++;
                }
            }
            return all == 0 ? finding(4) : 1000 * these / all;
        }
        long length(int n, int f) {
            if (noNode(n) || f < 0 || f > 12) return BAD;
            return !solved ? STATE : length[n][f] >= FAR ? NONE : length[n][f];
        }

        // ---- tracks, as the document tells them: lists of {node, fact, way}

        int track(int n, int f) {
            if (noNode(n) || f < 0 || f > 12) return BAD;
            if (!solved || length[n][f] >= FAR) return STATE;
            if (length[n][f] + 1 > 300) return FULL;
            track = theTrack(n, f);
            int open = 0;
            for (int[] s : track) {
                open += s[2] == 3 ? 1 : s[2] == 4 ? -1 : 0;
                s[3] = open;
            }
            return track.size();
        }
        List<int[]> theTrack(int n, int e) {
            Proc p = procs.get(nodes.get(n).proc);
            for (int d = 0; d <= 12; d++) {
                if (length[p.enter][d] < FAR && length[p.enter][d] + level[n][d][e] == length[n][e]) {
                    List<int[]> t = enterTrack(nodes.get(n).proc, d);
                    t.addAll(levelTrack(d, n, e));
                    return t;
                }
            }
            throw new IllegalStateException("no track");
        }
        List<int[]> enterTrack(int p, int d) {
            int enter = procs.get(p).enter;
            if (isBeginning(p, d)) return new ArrayList<>(List.of(new int[] {enter, d, 0, 0}));
            for (int c = 0; c < nodes.size(); c++) for (int f = 0; f <= 12; f++) {
                if (nodes.get(c).kind == 9 && nodes.get(c).callee == p && length[c][f] == length[enter][d] - 1
                        && (steps[c][1][f] >> d & 1) == 1) {
                    List<int[]> t = theTrack(c, f);
                    t.add(new int[] {enter, d, 3, 0});
                    return t;
                }
            }
            throw new IllegalStateException("no call");
        }
        List<int[]> levelTrack(int d, int n, int e) {
            Node node = nodes.get(n);
            if (node.kind == 0) return new ArrayList<>();
            long want = level[n][d][e];
            if (node.kind == 10) {
                List<int[]> t = acrossTrack(d, n, e, want);
                return t != null ? t : backTrack(d, n, e, want);
            }
            for (int m = 0; m < nodes.size(); m++) for (int f = 0; f <= 12; f++) {
                final int from = m;
                if (edges.stream().anyMatch(k -> k[0] == from && k[1] == n) && level[m][d][f] + 1 == want
                        && (steps[m][0][f] >> e & 1) == 1) {
                    List<int[]> t = levelTrack(d, m, f);
                    t.add(new int[] {n, e, 1, 0});
                    return t;
                }
            }
            throw new IllegalStateException("no edge");
        }
        List<int[]> acrossTrack(int d, int n, int e, long want) {
            int c = nodes.get(n).call;
            for (int f = 0; f <= 12; f++) {
                if (level[c][d][f] + 1 == want && (steps[c][0][f] >> e & 1) == 1) {
                    List<int[]> t = levelTrack(d, c, f);
                    t.add(new int[] {n, e, 2, 0});
                    return t;
                }
            }
            return null;
        }
        List<int[]> backTrack(int d, int n, int e, long want) {
            int c = nodes.get(n).call;
            Proc q = procs.get(nodes.get(c).callee);
            for (int f = 0; f <= 12; f++) for (int g = 0; g <= 12; g++) for (int h = 0; h <= 12; h++) {
                if ((steps[c][1][f] >> g & 1) == 1 && (steps[c][2][h] >> e & 1) == 1
                        && level[c][d][f] + 2 + level[q.leave][g][h] == want) {
                    List<int[]> t = levelTrack(d, c, f);
                    t.add(new int[] {q.enter, g, 3, 0});
                    t.addAll(levelTrack(g, q.leave, h));
                    t.add(new int[] {n, e, 4, 0});
                    return t;
                }
            }
            throw new IllegalStateException("no way back");
        }
        int at(int i, int what) {
            return i < 0 || i >= track.size() || what < 0 || what > 3 ? BAD : track.get(i)[what];
        }

        // ---- reports and the rest

        List<int[]> allReports() {
            List<int[]> all = new ArrayList<>();
            for (int n = 0; n < nodes.size(); n++) {
                Node node = nodes.get(n);
                Set<Integer> vars = new TreeSet<>();
                if (client < 2 && node.kind == 8) vars.add(node.x);
                if (client == 1 && (node.kind == 4 || node.kind == 5)) vars.add(node.y);
                if (client == 1 && node.kind == 5) vars.add(node.z);
                if (client == 1) for (int x : node.args) vars.add(x);
                for (int x : vars) if (length[n][x] < FAR) all.add(new int[] {n, x});
            }
            return all;
        }
        int reports() { return solved ? allReports().size() : STATE; }
        int report(int i, int what) {
            if (what < 0 || what > 1) return BAD;
            if (!solved) return STATE;
            List<int[]> all = allReports();
            return i < 0 || i >= all.size() ? NONE : all.get(i)[what];
        }
        int count(int what) {
            if (what < 0 || what > 5) return BAD;
            int calls = 0;
            for (Node n : nodes) if (n.kind == 9) calls++;
            return new int[] {procs.size(), nodes.size(), edges.size(), calls, (int) turns, track.size()}[what];
        }
        int findings(int f) { return f < 1 || f > 5 ? BAD : found[f]; }
        long digest() {
            List<Integer> v = new ArrayList<>();
            for (int n = 0; n < nodes.size(); n++) {
                for (int what = 0; what <= 9; what++) v.add(told(n, what));
                for (int x : nodes.get(n).args) v.add(x);
            }
            for (int[] e : edges) {
                v.add(e[0]);
                v.add(e[1]);
            }
            for (Proc p : procs) v.addAll(List.of(p.locals, p.parameters, p.outcome));
            v.add(client);
            if (solved) for (int n = 0; n < nodes.size(); n++) v.add(holding(n));
            long h = 17;
            for (int x : v) h = 31 * h + x;
            return h;
        }

        /** Every valid path up to so many steps, one by one: the least steps to each state. */
        long[][] walk(int limit, int most) {
            long[][] first = new long[nodes.size()][13];
            for (long[] r : first) Arrays.fill(r, FAR);
            Set<List<Integer>> now = new HashSet<>();      // node, fact, then the open calls
            for (int d = 0; d <= 12; d++) if (isBeginning(0, d)) now.add(List.of(procs.get(0).enter, d));
            Set<List<Integer>> seen = new HashSet<>();
            for (int i = 0; i <= limit; i++) {
                Set<List<Integer>> next = new HashSet<>();
                for (List<Integer> s : now) {
                    if (!seen.add(s)) continue;
                    first[s.get(0)][s.get(1)] = Math.min(first[s.get(0)][s.get(1)], i);
                    walkOn(s, next);
                }
                if (next.size() > most) return i < 3 ? null : cut(first, i);
                now = next;
            }
            return first;
        }
        int walked;
        long[][] cut(long[][] first, int i) { walked = i; return first; }
        void walkOn(List<Integer> s, Set<List<Integer>> next) {
            int n = s.get(0);
            Node node = nodes.get(n);
            List<Integer> calls = s.subList(2, s.size());
            for (int[] e : edges) if (e[0] == n) for (int f : to(node, 0, s.get(1))) next.add(state(e[1], f, calls));
            if (node.kind == 9) {
                for (int f : to(node, 0, s.get(1))) next.add(state(node.ret, f, calls));
                List<Integer> deeper = new ArrayList<>(calls);
                deeper.add(n);
                for (int f : to(node, 1, s.get(1))) next.add(state(procs.get(node.callee).enter, f, deeper));
            }
            if (node.kind == 1 && !calls.isEmpty()) {
                Node call = nodes.get(calls.get(calls.size() - 1));
                for (int f : to(call, 2, s.get(1))) next.add(state(call.ret, f, calls.subList(0, calls.size() - 1)));
            }
        }
        static List<Integer> state(int n, int f, List<Integer> calls) {
            List<Integer> s = new ArrayList<>(List.of(n, f));
            s.addAll(calls);
            return s;
        }
    }

    // ---------------------------------------------------------------- runs

    final Random random;
    final ValidPaths x = new ValidPaths();
    final Model m = new Model();
    final StringBuilder told = new StringBuilder();
    boolean failed;

    ModelTest(long seed) { random = new Random(seed); }

    int pick(int bound) { return random.nextInt(bound); }
    boolean chance(int percent) { return pick(100) < percent; }

    void same(String call, long got, long want) {
        told.append(call).append(" -> ").append(got).append('\n');
        if (got != want && !failed) {
            failed = true;
            wrong++;
            System.out.println(told + "due is " + want);
        }
    }

    /** A number that mostly is one of so many, and now and then is wild. */
    int some(int bound) {
        if (chance(94) && bound > 0) return pick(bound);
        int[] wild = {-1, -5, bound, bound + 1, 13, 64, Integer.MAX_VALUE, Integer.MIN_VALUE, -2, 5};
        return wild[pick(wild.length)];
    }
    int variable(int p) {
        int locals = m.noProc(p) ? 0 : m.procs.get(p).locals;
        return chance(97) ? 1 + pick(4 + locals) : some(14);
    }
    int aNode() { return some(m.nodes.size()); }
    int aCall() {
        List<Integer> calls = new ArrayList<>();
        for (int n = 0; n < m.nodes.size(); n++) if (m.nodes.get(n).kind == 9) calls.add(n);
        return calls.isEmpty() || chance(8) ? aNode() : calls.get(pick(calls.size()));
    }
    int bits() { return chance(95) ? chance(60) ? 1 << pick(13) | 1 << pick(13) : pick(8192) : some(8193); }

    void makeProcedure() {
        int l = some(9), p = some(Math.max(1, Math.min(5, l + 1)));
        same("procedure(" + l + ", " + p + ")", x.procedure(l, p), m.procedure(l, p));
    }
    void makeNode() {
        int p = some(m.procs.size()), kind = chance(95) ? 2 + pick(7) : some(12);
        int a = variable(p), b = variable(p), c = variable(p);
        same("node(" + p + ", " + kind + ", " + a + ", " + b + ", " + c + ")", x.node(p, kind, a, b, c), m.node(p, kind, a, b, c));
    }
    void makeCall() {
        int p = some(m.procs.size()), q = some(m.procs.size()), r = chance(30) ? NONE : variable(p);
        int n = m.noProc(q) || chance(6) ? some(5) : m.procs.get(q).parameters;
        int c = m.call(p, q, r, n);
        same("call(" + p + ", " + q + ", " + r + ", " + n + ")", x.call(p, q, r, n), c);
        for (int i = 0; i < n && c >= 0; i++) if (chance(97)) giveArgument(c, i, variable(p));
    }
    void giveArgument(int c, int i, int v) {
        same("argument(" + c + ", " + i + ", " + v + ")", x.argument(c, i, v), m.argument(c, i, v));
    }
    void makeEdge(int a, int b) { same("edge(" + a + ", " + b + ")", x.edge(a, b), m.edge(a, b)); }
    void anyEdge() {
        int a = aNode(), b = aNode();
        for (int i = 0; i < 20 && !m.noNode(a) && !m.noNode(b) && m.nodes.get(a).proc != m.nodes.get(b).proc; i++) b = aNode();
        makeEdge(a, b);
    }
    /** Leads through all nodes of each procedure, so that facts come far. */
    void makeChains() {
        for (int p = 0; p < m.procs.size(); p++) {
            int last = m.procs.get(p).enter;
            for (int n = 0; n < m.nodes.size(); n++) {
                Node node = m.nodes.get(n);
                if (node.proc != p || node.kind < 2 || node.kind == 10) continue;
                makeEdge(last, n);
                last = node.kind == 9 ? node.ret : n;
            }
            makeEdge(last, m.procs.get(p).leave);
            if (chance(60)) makeEdge(m.procs.get(p).enter, m.procs.get(p).leave);
        }
    }
    void makeRow() {
        int n = chance(50) ? aNode() : aCall(), part = chance(90) && !m.noNode(n) && m.nodes.get(n).kind != 9 ? 0 : some(3);
        int f = chance(97) ? 1 + pick(12) : some(13), b = bits();
        if (chance(25)) same("zero(" + n + ", " + part + ", " + b + ")", x.zero(n, part, b), m.zero(n, part, b));
        else same("flow(" + n + ", " + part + ", " + f + ", " + b + ")", x.flow(n, part, f, b), m.flow(n, part, f, b));
    }
    void change() {
        switch (pick(14)) {
            case 0: makeProcedure(); break;
            case 1: makeNode(); break;
            case 2: makeCall(); break;
            case 3: case 4: anyEdge(); break;
            case 5: { int c = aCall(), i = some(5), v = chance(20) ? NONE : variable(m.noNode(c) ? 0 : m.nodes.get(c).proc); giveArgument(c, i, v); break; }
            case 6: {
                int c = aCall(), i = some(4), o = aCall(), j = some(4), n = some(3);
                same("copy(" + c + ", " + i + ", " + o + ", " + j + ", " + n + ")", x.copy(c, i, o, j, n), m.copy(c, i, o, j, n));
                break;
            }
            case 7: case 8: { int p = some(m.procs.size()), v = chance(20) ? NONE : chance(80) && !m.noProc(p) ? 5 + some(m.procs.get(p).locals) : some(13);
                same("outcome(" + p + ", " + v + ")", x.outcome(p, v), m.outcome(p, v)); break; }
            case 9: { int c = some(3); same("client(" + c + ")", x.client(c), m.client(c)); break; }
            case 10: case 11: makeRow(); break;
            case 12: { int n = chance(50) ? aNode() : aCall(), p = some(3); same("forget(" + n + ", " + p + ")", x.forget(n, p), m.forget(n, p)); break; }
            default: { int b = bits(); same("begin(" + b + ")", x.begin(b), m.begin(b)); }
        }
    }
    void ask() {
        int n = aNode(), c = aCall(), f = some(13), i = some(12), w = some(4);
        boolean b = chance(50);
        switch (pick(22)) {
            case 0: { int p = some(m.procs.size()); same("ends(" + p + ", " + b + ")", x.ends(p, b), m.ends(p, b)); break; }
            case 1: { int what = some(10); same("told(" + n + ", " + what + ")", x.told(n, what), m.told(n, what)); break; }
            case 2: same("given(" + c + ", " + w + ")", x.given(c, w), m.given(c, w)); break;
            case 3: { int k = some(11); same("is(" + n + ", " + k + ")", x.is(n, k), m.is(n, k)); break; }
            case 4: { int p = some(3); same("goes(" + c + ", " + p + ", " + f + ")", x.goes(c, p, f), m.goes(c, p, f)); break; }
            case 5: same("goes(" + n + ", 0, " + f + ")", x.goes(n, 0, f), m.goes(n, 0, f)); break;
            case 6: same("solved()", x.solved(), m.solved()); break;
            case 7: same("holds(" + n + ")", x.holds(n), m.holds(n)); break;
            case 8: same("edges(" + b + ")", x.edges(b), m.edges(b)); break;
            case 9: same("from(" + n + ", " + f + ")", x.from(n, f), m.from(n, f)); break;
            case 10: same("summary(" + c + ", " + f + ")", x.summary(c, f), m.summary(c, f)); break;
            case 11: same("share(" + f + ")", x.share(f), m.share(f)); break;
            case 12: case 13: same("length(" + n + ", " + f + ")", x.length(n, f), m.length(n, f)); break;
            case 14: case 15: lay(n, f); break;
            case 16: same("at(" + i + ", " + w + ")", x.at(i, w), m.at(i, w)); break;
            case 17: same("reports()", x.reports(), m.reports()); break;
            case 18: { int r = some(3), what = some(2); same("report(" + r + ", " + what + ")", x.report(r, what), m.report(r, what)); break; }
            case 19: { int what = some(6); same("count(" + what + ")", x.count(what), m.count(what)); break; }
            case 20: { int k = some(6); same("findings(" + k + ")", x.findings(k), m.findings(k)); same("finding()", x.finding(), m.latest); break; }
            default: same("digest()", x.digest(), m.digest());
        }
    }
    void lay(int n, int f) {
        int size = m.track(n, f);
        same("track(" + n + ", " + f + ")", x.track(n, f), size);
        for (int i = 0; i < size; i++) for (int what = 0; what < 4; what++) same("at(" + i + ", " + what + ")", x.at(i, what), m.at(i, what));
    }
    void goSome(int n) { same("solve(" + n + ")", x.solve(n), m.solve(n)); }

    /** All that a solved object tells of states; more than 512 calls, which the class bears as well. */
    void askAll() {
        for (int n = 0; n < m.nodes.size() && !failed; n++) {
            same("holds(" + n + ")", x.holds(n), m.holds(n));
            for (int f = 0; f <= 12; f++) {
                same("from(" + n + ", " + f + ")", x.from(n, f), m.from(n, f));
                same("length(" + n + ", " + f + ")", x.length(n, f), m.length(n, f));
                same("goes(" + n + ", 0, " + f + ")", x.goes(n, 0, f), m.goes(n, 0, f));
                if (m.nodes.get(n).kind == 9) {
                    same("summary(" + n + ", " + f + ")", x.summary(n, f), m.summary(n, f));
                    same("goes(" + n + ", 1, " + f + ")", x.goes(n, 1, f), m.goes(n, 1, f));
                    same("goes(" + n + ", 2, " + f + ")", x.goes(n, 2, f), m.goes(n, 2, f));
                }
                lay(n, f);
            }
        }
        for (int f = 1; f <= 12; f++) same("share(" + f + ")", x.share(f), m.share(f));
        same("edges(false)", x.edges(false), m.edges(false));
        same("edges(true)", x.edges(true), m.edges(true));
        int reports = m.reports();
        same("reports()", x.reports(), reports);
        for (int i = -1; i <= reports; i++) for (int w = 0; w < 2; w++) same("report(" + i + ", " + w + ")", x.report(i, w), m.report(i, w));
        same("digest()", x.digest(), m.digest());
    }
    /** Lengths against the walking of paths one by one. */
    void askWalk(int limit) {
        if (m.solved() == 0) return;
        m.walked = limit;
        long[][] first = m.walk(limit, 3000);
        if (first == null) return;
        for (int n = 0; n < m.nodes.size(); n++) for (int f = 0; f <= 12; f++) {
            long length = x.length(n, f);
            long want = first[n][f];
            if (want < FAR) same("length(" + n + ", " + f + ") by walking", length, want);
            else if (length >= 0 && length <= m.walked) same("length(" + n + ", " + f + ") by walking", length, NONE);
        }
    }

    void build(int size) {
        int procs = 1 + pick(4);
        for (int i = 0; i < procs; i++) makeProcedure();
        for (int i = 0; i < size; i++) if (chance(35)) makeCall(); else makeNode();
        makeChains();
        for (int i = pick(8); i > 0; i--) anyEdge();
        for (int p = 0; p < m.procs.size(); p++) {
            int v = m.procs.get(p).locals == 0 ? NONE : 5 + pick(m.procs.get(p).locals);
            if (chance(75)) same("outcome(" + p + ", " + v + ")", x.outcome(p, v), m.outcome(p, v));
        }
        int c = pick(3);
        same("client(" + c + ")", x.client(c), m.client(c));
        for (int i = c == 2 ? 10 + pick(30) : pick(4); i > 0; i--) makeRow();
    }

    void runMixed() {
        build(3 + pick(12));
        for (int i = 0; i < 150 && !failed; i++) {
            if (chance(12)) change();
            else if (chance(18)) goSome(chance(60) ? 20000 : some(300));
            else ask();
        }
    }
    void runWhole() {
        build(3 + pick(10));
        for (int i = 0; i < 6 && m.solved() == 0; i++) goSome(i < 4 ? pick(40) : 20000);
        if (m.solved() == 1) {
            askAll();
            askWalk(14);
        }
    }

    public static void main(String[] args) {
        int runs = args.length > 0 ? Integer.parseInt(args[0]) : 400;
        long start = args.length > 1 ? Long.parseLong(args[1]) : 1;
        int whole = 0;
        for (long seed = start; seed < start + runs && wrong < 3; seed++) {
            ModelTest mixed = new ModelTest(seed);
            mixed.runMixed();
            ModelTest all = new ModelTest(-seed);
            all.runWhole();
            whole += all.m.solved();
        }
        System.out.println(wrong == 0 ? "all answers are the model's (" + whole + " programs solved whole)" : wrong + " runs differ");
        if (wrong != 0 || whole < runs / 4) System.exit(1);
    }
}
