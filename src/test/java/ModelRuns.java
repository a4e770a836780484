import java.util.ArrayList;
import java.util.HashMap;
import java.util.List;
import java.util.Map;
import java.util.Random;

/**
 * Random streams and random calls, each answered a second time by a slow model that was written
 * from the document alone and shares no code with the class. The runs are the same each time.
 */
public final class ModelRuns {
    static int wrong = 0;
    static int run = 0;
    static int calls = 0;
    static Random r;

    // ---- a formula: its text, and its value as a function of the facts

    interface Value {
        long of(Map<String, Integer> facts);
    }

    record Piece(String text, Value value) {
    }

    static long cut(long v) {
        return v > 1000000 ? 1000000 : v < -1000000 ? -1000000 : v;
    }

    static String blank() {
        int k = r.nextInt(8);
        return k == 0 ? " " : k == 1 ? "\n" : "";
    }

    static Piece part(List<String> facts, int depth) {
        int k = r.nextInt(depth > 0 ? 9 : 5);
        if (k < 2) {
            int n = r.nextInt(6) == 0 ? r.nextInt(10000) : r.nextInt(12);
            return new Piece("" + n, f -> n);
        }
        if (k < 5) {
            String name = facts.get(r.nextInt(facts.size()));
            return new Piece(name, f -> f.get(name));
        }
        if (k == 5) {
            Piece a = sum(facts, depth - 1);
            return new Piece("(" + blank() + a.text + ")", a.value);
        }
        Piece a = sum(facts, depth - 1);
        Piece b = sum(facts, depth - 1);
        if (k == 6) {
            return new Piece("min(" + a.text + "," + b.text + ")", f -> Math.min(a.value.of(f), b.value.of(f)));
        }
        if (k == 7) {
            return new Piece("max" + blank() + "(" + a.text + "," + blank() + b.text + ")", f -> Math.max(a.value.of(f), b.value.of(f)));
        }
        Piece t = test(facts, depth - 1);
        return new Piece("if(" + t.text + "," + a.text + "," + b.text + ")", f -> t.value.of(f) != 0 ? a.value.of(f) : b.value.of(f));
    }

    static Piece product(List<String> facts, int depth) {
        Piece left = part(facts, depth);
        while (r.nextInt(3) == 0) {
            Piece a = left;
            Piece b = part(facts, depth);
            int k = r.nextInt(3);
            left = new Piece(a.text + blank() + "*/%".charAt(k) + blank() + b.text, f -> {
                long x = a.value.of(f);
                long y = b.value.of(f);
                if (k == 0) {
                    return cut(x * y);
                }
                if (y == 0) {
                    return 0;
                }
                long q = (long) Math.floor((double) x / y);
                return cut(k == 1 ? q : x - y * q);
            });
        }
        return left;
    }

    static Piece sum(List<String> facts, int depth) {
        Piece left = product(facts, depth);
        while (r.nextInt(3) == 0) {
            Piece a = left;
            Piece b = product(facts, depth);
            boolean plus = r.nextBoolean();
            left = new Piece(a.text + blank() + (plus ? "+" : "-") + blank() + b.text,
                f -> cut(plus ? a.value.of(f) + b.value.of(f) : a.value.of(f) - b.value.of(f)));
        }
        return left;
    }

    static Piece fact(List<String> facts, int depth) {
        int k = r.nextInt(12);
        if (k == 0 && depth > 0) {
            Piece a = fact(facts, depth - 1);
            return new Piece("not " + a.text, f -> 1 - a.value.of(f));
        }
        if (k == 1 && depth > 0) {
            Piece a = test(facts, depth - 1);
            return new Piece("[" + blank() + a.text + blank() + "]", a.value);
        }
        if (k == 2 && r.nextInt(6) == 0) {
            return new Piece("all", f -> 1);
        }
        Piece a = sum(facts, depth);
        Piece b = sum(facts, depth);
        int s = r.nextInt(3);
        return new Piece(a.text + blank() + "<>=".charAt(s) + blank() + b.text, f -> {
            long x = a.value.of(f);
            long y = b.value.of(f);
            return (s == 0 ? x < y : s == 1 ? x > y : x == y) ? 1 : 0;
        });
    }

    static Piece both(List<String> facts, int depth) {
        Piece left = fact(facts, depth);
        while (r.nextInt(4) == 0) {
            Piece a = left;
            Piece b = fact(facts, depth);
            left = new Piece(a.text + " and " + b.text, f -> a.value.of(f) * b.value.of(f));
        }
        return left;
    }

    static Piece test(List<String> facts, int depth) {
        Piece left = both(facts, depth);
        while (r.nextInt(5) == 0) {
            Piece a = left;
            Piece b = both(facts, depth);
            left = new Piece(a.text + " or " + b.text, f -> Math.max(a.value.of(f), b.value.of(f)));
        }
        return left;
    }

    // ---- the stream that is told

    static final class Told {
        int bytes, unit, window, key, loss, statements;
        List<String> names = new ArrayList<>();
        List<Integer> delays = new ArrayList<>();
        Map<Integer, int[]> joins = new HashMap<>();
        Piece drops, picks, reads, waits;
        String text;
    }

    static String name() {
        StringBuilder b = new StringBuilder("q");
        int n = r.nextInt(6);
        for (int k = 0; k < n; k++) {
            b.append((char) ('a' + r.nextInt(26)));
        }
        return b.toString();
    }

    static Told tell() {
        Told t = new Told();
        t.bytes = r.nextInt(10) == 0 ? 1 + r.nextInt(200) : 40 + r.nextInt(161);
        t.unit = 1 + r.nextInt(20);
        t.window = 10 + r.nextInt(90);
        if (r.nextInt(8) == 0) {
            t.bytes = 200;
            t.unit = 1;
            t.window = 99;
        }
        t.key = r.nextInt(1000);
        List<String> lines = new ArrayList<>();
        int paths = r.nextInt(20) == 0 ? r.nextInt(2) : 2 + r.nextInt(3);
        int right = (31 * t.key + 17) % 1000;
        for (int k = 0; k < paths; k++) {
            String n = name();
            while (t.names.contains(n)) {
                n = name();
            }
            t.names.add(n);
            t.delays.add(1 + r.nextInt(9));
            lines.add("path " + n + " delay " + t.delays.get(k));
            if (k > 0 && r.nextInt(5) > 0) {
                int at = r.nextInt(3) > 0 ? r.nextInt(4) : r.nextInt(100);
                int token = r.nextInt(6) == 0 ? r.nextInt(1000) : right;
                t.joins.put(k, new int[] {at, token});
                lines.add("join " + n + " at " + at + blank() + " token " + token);
            }
        }
        if (r.nextInt(3) > 0) {
            t.loss = r.nextInt(2) == 0 ? r.nextInt(20) : r.nextInt(101);
            lines.add(r.nextInt(lines.size() + 1), "loss 7");
            lines.add("loss " + t.loss);
        }
        tellFormulas(t, lines);
        StringBuilder b = new StringBuilder();
        b.append(blank() + "stream " + t.bytes + " unit " + t.unit + " window " + t.window + " key " + t.key + blank() + ";");
        for (String line : lines) {
            b.append(blank() + line + blank() + ";" + blank());
        }
        t.text = b.toString();
        t.statements = lines.size() + 1;
        return t;
    }

    static void tellFormulas(Told t, List<String> lines) {
        if (r.nextInt(2) == 0) {
            t.drops = test(List.of("tick", "path", "number", "from"), 2);
            if (r.nextInt(2) == 0) {
                int m = 2 + r.nextInt(7);
                t.drops = new Piece("(tick+number*3+path)%" + m + "=1", f -> (f.get("tick") + f.get("number") * 3 + f.get("path")) % m == 1 ? 1 : 0);
            }
            lines.add(r.nextInt(lines.size() + 1), "drops " + t.drops.text);
        }
        if (r.nextInt(2) == 0) {
            t.picks = sum(List.of("tick", "path", "delay", "cwnd", "flying"), 2);
            lines.add(r.nextInt(lines.size() + 1), "picks " + t.picks.text);
        }
        if (r.nextInt(2) == 0) {
            t.reads = sum(List.of("tick", "ready", "ahead"), 2);
            lines.add(r.nextInt(lines.size() + 1), "reads " + t.reads.text);
        }
        if (r.nextInt(2) == 0) {
            t.waits = sum(List.of("tick", "delay", "cwnd", "fails"), 2);
            lines.add(r.nextInt(lines.size() + 1), "waits " + t.waits.text);
        }
    }

    // ---- the model

    static final class Seg {
        int path, number, first, size, tick, reaches;
        boolean lost, bad, flies;
    }

    static final class Ans {
        int path, number, needed, edge, reaches;
    }

    static final class Model implements Cloneable {
        Told t;
        int window, tick, sent, needed, edge, read, bytesSent;
        int[] delay, cwnd, failed, numbers;
        boolean[] joined, dead, spoiled, taken;
        int[] refused = new int[4];
        List<Seg> segs = new ArrayList<>();
        List<Ans> answers = new ArrayList<>();
        List<int[]> again = new ArrayList<>();
        List<int[]> kept = new ArrayList<>();
        int sentSegments, lostByDraws;
        Boolean firstDropped;

        Model(Told told) {
            t = told;
            int n = t.names.size();
            delay = t.delays.stream().mapToInt(x -> x).toArray();
            cwnd = new int[n];
            failed = new int[n];
            numbers = new int[n];
            joined = new boolean[n];
            dead = new boolean[n];
            spoiled = new boolean[n];
            taken = new boolean[t.bytes];
            window = t.window;
            edge = window;
            if (n > 0) {
                joined[0] = true;
                cwnd[0] = 2000;
            }
        }

        Model copy() {
            Model m = new Model(t);
            m.window = window;
            m.tick = tick;
            m.sent = sent;
            m.needed = needed;
            m.edge = edge;
            m.read = read;
            m.bytesSent = bytesSent;
            m.delay = delay.clone();
            m.cwnd = cwnd.clone();
            m.failed = failed.clone();
            m.numbers = numbers.clone();
            m.joined = joined.clone();
            m.dead = dead.clone();
            m.spoiled = spoiled.clone();
            m.taken = taken.clone();
            m.refused = refused.clone();
            for (Seg s : segs) {
                Seg c = new Seg();
                c.path = s.path;
                c.number = s.number;
                c.first = s.first;
                c.size = s.size;
                c.tick = s.tick;
                c.reaches = s.reaches;
                c.lost = s.lost;
                c.bad = s.bad;
                c.flies = s.flies;
                m.segs.add(c);
            }
            m.answers.addAll(answers);
            m.again.addAll(again);
            m.kept.addAll(kept);
            return m;
        }

        boolean lives(int p) {
            return joined[p] && !dead[p];
        }

        List<Seg> flying(int p) {
            List<Seg> l = new ArrayList<>();
            for (Seg s : segs) {
                if (s.flies && (p < 0 || s.path == p)) {
                    l.add(s);
                }
            }
            return l;
        }

        int ready() {
            int k = read;
            while (k < t.bytes && taken[k]) {
                k++;
            }
            return k - read;
        }

        int takenCount() {
            int n = 0;
            for (boolean b : taken) {
                n += b ? 1 : 0;
            }
            return n;
        }

        boolean join(int p, int token) {
            if (!joined[p] && !dead[p] && token == (31 * t.key + 17) % 1000) {
                joined[p] = true;
                cwnd[p] = 2000;
                failed[p] = 0;
                return true;
            }
            refused[0]++;
            return false;
        }

        void die(int p) {
            if (dead[p]) {
                return;
            }
            dead[p] = true;
            kept.add(new int[] {2, p, tick});
            for (Seg s : flying(p)) {
                s.flies = false;
                again.add(new int[] {s.first, s.size});
            }
        }

        int wait(int p) {
            long w = t.waits == null ? delay[p] * 4 + 2
                : t.waits.value.of(Map.of("tick", tick, "delay", delay[p], "cwnd", cwnd[p], "fails", failed[p]));
            return (int) (w < 1 ? 1 : w > 99 ? 99 : w);
        }

        // x[0] is the seed; null without DRAWS
        void step(int[] x) {
            for (Map.Entry<Integer, int[]> j : t.joins.entrySet()) {
                if (j.getValue()[0] == tick) {
                    join(j.getKey(), j.getValue()[1]);
                }
            }
            hear();
            receive();
            for (int p = 0; p < delay.length; p++) {
                List<Seg> l = flying(p);
                int w = wait(p);
                for (Seg s : l) {
                    if (tick - s.tick >= w) {
                        s.flies = false;
                        again.add(new int[] {s.first, s.size});
                        kept.add(new int[] {0, p, s.first});
                        failed[p]++;
                        cwnd[p] = Math.max(1000, cwnd[p] / 2);
                        if (failed[p] == 3) {
                            die(p);
                        }
                        break;
                    }
                }
            }
            sendAll(x);
            tick++;
        }

        void hear() {
            for (Ans a : new ArrayList<>(answers)) {
                if (a.reaches != tick) {
                    continue;
                }
                answers.remove(a);
                if (a.needed > needed) {
                    needed = a.needed;
                }
                if (a.edge > edge) {
                    edge = a.edge;
                }
                for (Seg s : segs) {
                    if (s.flies && s.path == a.path && s.number == a.number) {
                        s.flies = false;
                        failed[s.path] = 0;
                        int all = 0;
                        for (int p = 0; p < delay.length; p++) {
                            all += lives(p) ? cwnd[p] : 0;
                        }
                        cwnd[s.path] = Math.min(99000, cwnd[s.path] + 1000000 / all);
                    }
                }
            }
        }

        void receive() {
            List<Seg> came = new ArrayList<>();
            for (Seg s : segs) {
                if (!s.lost && s.reaches == tick) {
                    came.add(s);
                }
            }
            for (Seg s : came) {
                boolean all = true;
                for (int k = s.first; k < s.first + s.size; k++) {
                    all &= taken[k];
                }
                if (s.bad) {
                    refused[1]++;
                } else if (s.first + s.size - 1 >= read + window) {
                    refused[2]++;
                } else if (all) {
                    refused[3]++;
                } else {
                    for (int k = s.first; k < s.first + s.size; k++) {
                        taken[k] = true;
                    }
                }
            }
            int ready = ready();
            long n = t.reads == null ? ready
                : t.reads.value.of(Map.of("tick", tick, "ready", ready, "ahead", takenCount() - read - ready));
            n = Math.max(0, Math.min(n, ready));
            read += (int) n;
            boolean any = false;
            for (Seg s : came) {
                if (!s.bad) {
                    answer(s.path, s.number);
                    any = true;
                }
            }
            for (int p = 0; p < delay.length && !any && n > 0; p++) {
                if (lives(p)) {
                    answer(p, -1);
                    any = true;
                }
            }
            for (Seg s : came) {
                if (s.bad) {
                    die(s.path);
                }
            }
        }

        void answer(int p, int number) {
            Ans a = new Ans();
            a.path = p;
            a.number = number;
            a.needed = read + ready();
            a.edge = read + window;
            a.reaches = tick + delay[p];
            answers.add(a);
        }

        int best(int but) {
            int best = -1;
            long least = Long.MAX_VALUE;
            for (int p = 0; p < delay.length; p++) {
                if (p == but || !lives(p) || 1000 * flying(p).size() >= cwnd[p]) {
                    continue;
                }
                long v = t.picks == null ? delay[p] : t.picks.value.of(
                    Map.of("tick", tick, "path", p, "delay", delay[p], "cwnd", cwnd[p], "flying", flying(p).size()));
                if (v < least) {
                    least = v;
                    best = p;
                }
            }
            return best;
        }

        void sendAll(int[] x) {
            sentSegments = 0;
            lostByDraws = 0;
            firstDropped = null;
            boolean penalty = false;
            while (true) {
                again.removeIf(q -> q[0] + q[1] <= needed);
                int fresh = Math.min(Math.min(t.bytes, edge) - sent, t.unit);
                if (!again.isEmpty() || fresh > 0) {
                    int p = best(-1);
                    if (p < 0) {
                        return;
                    }
                    if (!again.isEmpty()) {
                        int[] q = again.remove(0);
                        send(p, q[0], q[1], x);
                    } else {
                        send(p, sent, fresh, x);
                        sent += fresh;
                    }
                    continue;
                }
                Seg slow = null;
                for (Seg s : flying(-1)) {
                    if (slow == null && s.first <= needed && needed < s.first + s.size) {
                        slow = s;
                    }
                }
                if (penalty || sent != edge || sent >= t.bytes || slow == null) {
                    return;
                }
                int p = best(slow.path);
                if (p < 0) {
                    return;
                }
                penalty = true;
                kept.add(new int[] {1, slow.path, slow.first});
                cwnd[slow.path] = Math.max(1000, cwnd[slow.path] / 2);
                send(p, slow.first, slow.size, x);
            }
        }

        void send(int p, int first, int size, int[] x) {
            Seg s = new Seg();
            s.path = p;
            s.number = numbers[p]++;
            s.first = first;
            s.size = size;
            s.tick = tick;
            s.reaches = tick + delay[p];
            s.bad = spoiled[p];
            s.flies = true;
            spoiled[p] = false;
            s.lost = t.drops != null && t.drops.value.of(Map.of("tick", tick, "path", p, "number", s.number, "from", first)) != 0;
            if (firstDropped == null) {
                firstDropped = s.lost;
            }
            if (x != null) {
                x[0] = (int) ((1103515245L * x[0] + 12345) % (1L << 31));
                if (x[0] / 64 % 100 < t.loss) {
                    s.lost = true;
                    lostByDraws++;
                }
            }
            segs.add(s);
            bytesSent += size;
            sentSegments++;
        }

        int finish() {
            Model m = copy();
            for (int n = 0; n <= 200; n++) {
                if (m.needed == t.bytes) {
                    return n;
                }
                if (m.tick == 999) {
                    return -1;
                }
                m.step(null);
            }
            return -1;
        }
    }

    // ---- the runs

    static Model m;
    static List<Model> undo;
    static List<int[]> met;
    static int[] seed;
    static int[] status;
    static PathStream x;
    static StringBuilder trail;

    static void due(String call, int got, int want) {
        calls++;
        trail.append(call).append(" = ").append(want).append('\n');
        if (got != want) {
            wrong++;
            if (wrong < 20) {
                System.out.println("run " + run + ": " + call + " answered " + got + ", due is " + want);
                if (wrong == 1) {
                    System.out.println(m.t.text + "\n" + trail);
                }
            }
        }
    }

    static int feed(byte[] text) {
        for (int k = 0; k < text.length; k += 20) {
            int[] v = new int[5];
            for (int j = 0; j < 20; j++) {
                v[j / 4] = v[j / 4] << 8 | (k + j < text.length ? text[k + j] & 255 : 32);
            }
            x.feed(v[0], v[1], v[2], v[3], v[4]);
        }
        x.end(text.length);
        return text.length;
    }

    static int delays(int p, int[][] seen) {
        int bits = 0;
        for (int d = 1; d <= 9; d++) {
            Model c = m.copy();
            c.delay[p] = d;
            for (int n = 0; n <= 60 && c.tick <= 999; n++) {
                seen[d][2 * n] = c.needed;
                seen[d][2 * n + 1] = c.read;
                if (c.tick == 999) {
                    break;
                }
                c.step(null);
            }
            boolean fits = true;
            for (int[] row : met) {
                fits &= m.tick + row[0] <= 999 && seen[d][2 * row[0] + row[1]] == row[2];
            }
            bits |= fits ? 1 << d : 0;
        }
        return bits;
    }

    static int[] tells(int p) {
        int[][] seen = new int[10][122];
        int bits = delays(p, seen);
        int[] best = null;
        for (int n = 1; n <= 60 && m.tick + n <= 999 && bits != 0; n++) {
            for (int kind = 0; kind < 2; kind++) {
                Map<Integer, Integer> groups = new HashMap<>();
                for (int d = 1; d <= 9; d++) {
                    if ((bits >> d & 1) == 1) {
                        groups.merge(seen[d][2 * n + kind], 1, Integer::sum);
                    }
                }
                int most = groups.values().stream().mapToInt(v -> v).max().getAsInt();
                if (best == null || most < best[2]) {
                    best = new int[] {n, kind, most};
                }
            }
        }
        return best == null ? new int[] {-1, -1, -1} : best;
    }

    static void remember() {
        undo.add(m.copy());
        if (undo.size() > 20) {
            undo.remove(0);
        }
    }

    static void act() {
        int paths = m.delay.length;
        int p = r.nextInt(paths + 1);
        switch (r.nextInt(12)) {
            case 0: case 1: case 2: case 3: {
                int n = r.nextInt(6) == 0 ? r.nextInt(102) : 1 + r.nextInt(5);
                boolean draws = r.nextInt(3) == 0;
                int want = 0;
                if (n < 1 || n > 100 || m.tick + n > 999) {
                    want = -1;
                    status[2]++;
                } else {
                    remember();
                    for (int k = 0; k < n; k++) {
                        m.step(draws ? seed : null);
                        want += draws ? m.lostByDraws : m.sentSegments;
                    }
                }
                due((draws ? "chance " : "ticks ") + n, draws ? x.chance(n) : x.ticks(n), want);
                break;
            }
            case 4: {
                int token = r.nextInt(5) == 0 ? r.nextInt(1003) - 1 : (31 * m.t.key + 17) % 1000;
                boolean can = p < paths && !m.joined[p] && !m.dead[p] && token >= 0 && token < 1000;
                boolean want = false;
                if (can) {
                    remember();
                    want = m.join(p, token);
                } else {
                    status[3]++;
                }
                due("join " + p + " " + token, x.join(p, token) ? 1 : 0, want ? 1 : 0);
                break;
            }
            case 5: {
                if (r.nextInt(4) > 0) {
                    break;
                }
                boolean can = p < paths && m.lives(p);
                if (can) {
                    remember();
                    m.die(p);
                } else {
                    status[3]++;
                }
                due("kill " + p, x.kill(p) ? 1 : 0, can ? 1 : 0);
                break;
            }
            case 6: {
                if (r.nextInt(2) > 0) {
                    break;
                }
                boolean can = p < paths && m.lives(p) && !m.spoiled[p];
                if (can) {
                    remember();
                    m.spoiled[p] = true;
                } else {
                    status[3]++;
                }
                due("spoil " + p, x.spoil(p) ? 1 : 0, can ? 1 : 0);
                break;
            }
            case 7: case 8: {
                boolean can = !undo.isEmpty();
                if (can) {
                    m = undo.remove(undo.size() - 1);
                } else {
                    status[4]++;
                }
                due("undo", x.undo() ? 1 : 0, can ? 1 : 0);
                break;
            }
            case 9: {
                int s = r.nextInt(5) == 0 ? -1 - r.nextInt(5) : r.nextInt() & 0x7fffffff;
                if (s >= 0) {
                    seed[0] = s;
                } else {
                    status[5]++;
                }
                due("seed " + s, x.seed(s) ? 1 : 0, s >= 0 ? 1 : 0);
                break;
            }
            default:
                meet();
        }
    }

    static void meet() {
        int rows = 1 + r.nextInt(3);
        byte[] b = new byte[3 * rows];
        boolean good = true;
        List<int[]> list = new ArrayList<>();
        Model c = m.copy();
        int p = r.nextInt(m.delay.length + 1);
        if (p < m.delay.length) {
            c.delay[p] = 1 + r.nextInt(9);
        }
        int at = 0;
        for (int k = 0; k < rows; k++) {
            int n = r.nextInt(9);
            for (int j = 0; j < n && c.tick < 999; j++) {
                c.step(null);
                at++;
            }
            int kind = r.nextInt(30) == 0 ? 2 : r.nextInt(2);
            int v = kind == 0 ? c.needed : c.read;
            list.add(new int[] {at, kind, v});
            good &= kind < 2;
            b[3 * k] = (byte) at;
            b[3 * k + 1] = (byte) kind;
            b[3 * k + 2] = (byte) v;
        }
        feed(b);
        if (good) {
            met = list;
        } else {
            status[5]++;
        }
        due("meet " + rows, x.meet(), good ? rows : -1);
    }

    static void look() {
        int paths = m.delay.length;
        int[] has = {m.t.bytes, paths, 0, m.tick, m.sent, m.needed, m.edge, m.takenCount(), m.read, m.flying(-1).size(),
            m.answers.size(), 0, m.bytesSent, Math.min(40, m.kept.size()), met.size(), undo.size(), seed[0]};
        for (int p = 0; p < paths; p++) {
            has[2] += m.lives(p) ? 1 : 0;
        }
        for (int[] q : m.again) {
            has[11] += q[0] + q[1] > m.needed ? 1 : 0;
        }
        for (int k = 0; k < 17; k++) {
            due("has " + k, x.has(k), has[k]);
        }
        for (int p = 0; p < paths; p++) {
            int[] path = {m.delay[p], m.joined[p] ? 1 : 0, m.dead[p] ? 1 : 0, m.cwnd[p], m.failed[p], m.flying(p).size(),
                m.numbers[p], m.spoiled[p] ? 1 : 0, m.wait(p)};
            for (int k = 0; k < 9; k++) {
                due("path " + p + " " + k, x.path(p, k), path[k]);
            }
        }
        for (int k = 0; k < 4; k++) {
            due("refusals " + k, x.refusals(k), m.refused[k]);
        }
        for (int k = 0; k < 6; k++) {
            due("status " + k, x.status(k), status[k]);
        }
        List<Seg> flying = m.flying(-1);
        for (int k = 0; k < flying.size(); k++) {
            Seg s = flying.get(k);
            long sum = 0;
            for (int j = s.first; j < s.first + s.size; j++) {
                sum += ((long) j * j + 7 * j + m.t.key) % 251;
            }
            int[] seg = {s.path, s.number, s.first, s.size, s.tick, (int) (sum % 251)};
            for (int j = 0; j < 6; j++) {
                due("segment " + k + " " + j, x.segment(k, j), seg[j]);
            }
        }
        due("segment behind", x.segment(flying.size(), 0), -1);
        for (int k = 0; k < m.t.bytes; k++) {
            due("octet " + k, x.octet(k), k < m.read ? 2 : m.taken[k] ? 1 : 0);
        }
        int from = Math.max(0, m.kept.size() - 40);
        for (int k = from; k < m.kept.size(); k++) {
            for (int j = 0; j < 3; j++) {
                due("kept " + (k - from) + " " + j, x.kept(k - from, j), m.kept.get(k)[j]);
            }
        }
        due("kept behind", x.kept(m.kept.size() - from, 0), -1);
    }

    static void ask() {
        int paths = m.delay.length;
        int p = r.nextInt(paths + 1);
        switch (r.nextInt(8)) {
            case 0: {
                int n = r.nextInt(4) == 0 ? r.nextInt(203) - 1 : r.nextInt(30);
                int k = r.nextInt(5);
                int want = -1;
                if (n >= 0 && n <= 200 && m.tick + n <= 999) {
                    Model c = m.copy();
                    for (int j = 0; j < n; j++) {
                        c.step(null);
                    }
                    want = new int[] {c.sent, c.needed, c.read, c.flying(-1).size(), c.bytesSent}[k];
                }
                due("later " + n + " " + k, x.later(n, k), want);
                break;
            }
            case 1:
                due("finish", x.finish(), m.finish());
                break;
            case 2: {
                Model c = m.copy();
                if (p < paths) {
                    c.die(p);
                }
                due("without " + p, x.without(p), p < paths ? c.finish() : -1);
                break;
            }
            case 3: {
                Model c = m.copy();
                for (int q = 0; q < paths; q++) {
                    if (q != p) {
                        c.die(q);
                    }
                }
                due("alone " + p, x.alone(p), p < paths ? c.finish() : -1);
                break;
            }
            case 4: {
                int n = r.nextInt(202);
                int want = -1;
                for (int w = m.t.unit; w <= 99 && n >= 1 && n <= 200 && m.tick + n <= 999 && want < 0; w++) {
                    Model c = m.copy();
                    c.window = w;
                    for (int k = 0; k < n; k++) {
                        c.step(null);
                    }
                    want = c.needed == m.t.bytes ? w : -1;
                }
                due("window " + n, x.window(n), want);
                break;
            }
            case 5: {
                int want = -1;
                Model c = m.copy();
                if (m.tick < 999) {
                    c.step(null);
                    want = c.firstDropped == null ? -1 : c.firstDropped ? 0 : 100 - m.t.loss;
                }
                due("odds 0", x.odds(0), want);
                due("odds 1", x.odds(1), want < 0 ? -1 : 100);
                break;
            }
            case 6:
                due("delays " + p, x.delays(p), p < paths ? delays(p, new int[10][122]) : -1);
                break;
            default: {
                int k = r.nextInt(3);
                due("tells " + p + " " + k, x.tells(p, k), p < paths ? tells(p)[k] : -1);
            }
        }
    }

    static void begin() {
        Told t = tell();
        while (t.text.length() > 1600) {
            t = tell();
        }
        m = new Model(t);
        undo = new ArrayList<>();
        met = new ArrayList<>();
        trail = new StringBuilder();
        feed(t.text.getBytes());
        due("stream", x.stream(), t.statements);
        due("fault 0", x.fault(0), 0);
        for (int p = 0; p < t.names.size(); p++) {
            for (int k = 0; k < 6; k++) {
                String n = t.names.get(p);
                due("letter " + p + " " + k, x.letter(p, k), k < n.length() ? n.charAt(k) - 'a' + 1 : 0);
            }
        }
    }

    public static void main(String[] args) {
        int runs = args.length > 0 ? Integer.parseInt(args[0]) : 150;
        for (run = 1; run <= runs; run++) {
            r = new Random(run);
            x = new PathStream();
            seed = new int[] {1};
            status = new int[6];
            begin();
            if (r.nextInt(15) == 0) {
                begin();
            }
            boolean far = r.nextInt(12) == 0;
            for (int k = 0; far && k < 9; k++) {
                remember();
                int want = 0;
                for (int j = 0; j < 100; j++) {
                    m.step(null);
                    want += m.sentSegments;
                }
                due("ticks 100", x.ticks(100), want);
            }
            int rounds = 10 + r.nextInt(50);
            for (int k = 0; k < rounds; k++) {
                act();
                if (r.nextInt(3) == 0) {
                    ask();
                }
                if (r.nextInt(6) == 0) {
                    look();
                }
            }
            look();
        }
        System.out.println(wrong == 0 ? "all " + calls + " answers are as due" : wrong + " answers are not as due");
        if (wrong != 0) {
            System.exit(1);
        }
    }
}
