import java.util.ArrayList;
import java.util.HashMap;
import java.util.List;

/** The document once more, in the plainest way and without any saving, for comparison. */
final class Model {
    static final class B {
        int length, slope, rough, drop, turn;
    }

    static final class Run {
        int[] board, on, turned;
    }

    static final class Ev {
        int tick, machine, number;

        Ev(int t, int m, int n) {
            tick = t;
            machine = m;
            number = n;
        }
    }

    @SuppressWarnings("serial")
    static final class Fault extends RuntimeException {
        final int kind, place;

        Fault(int kind, int place) {
            this.kind = kind;
            this.place = place;
        }
    }

    List<B> boards = new ArrayList<>();
    Run[] runs = new Run[4];
    List<int[]> machines = new ArrayList<>();
    List<Integer> men = new ArrayList<>();
    List<Ev> events = new ArrayList<>();
    int fault = 0;

    void board(int l, int s, int r, int d, int t) {
        B b = new B();
        b.length = l;
        b.slope = s;
        b.rough = r;
        b.drop = d;
        b.turn = t;
        boards.add(b);
    }

    void run(int r, int... bytes) {
        Run run = new Run();
        int n = bytes.length / 3;
        run.board = new int[n];
        run.on = new int[n];
        run.turned = new int[n];
        for (int i = 0; i < n; i++) {
            run.board[i] = bytes[3 * i];
            run.on[i] = bytes[3 * i + 1];
            run.turned[i] = bytes[3 * i + 2];
        }
        runs[r] = run;
    }

    /** Knocks as {tick, place, strength}; the last row is {end, jumped, fastest}. */
    List<int[]> fall(Run run, int gates, int worn) {
        List<int[]> out = new ArrayList<>();
        int place = 0, part = 0, speed = 0, end = -1, jumped = 0, fastest = 0;
        for (int t = 1; t <= 2000 && end < 0; t++) {
            B b = boards.get(run.board[place]);
            int drop = (worn >> place & 1) == 1 ? Math.max(0, b.drop - 1) : b.drop;
            speed = speed + b.slope;
            speed = speed - speed * b.rough / 64;
            if (speed < 0) speed = 0;
            if (speed > 1023) speed = 1023;
            part += speed;
            if (part >= 64 * b.length) {
                if (drop * speed / 64 != 0) out.add(new int[] {t, place, drop * speed / 64});
                speed -= speed * b.turn / 16;
                part -= 64 * b.length;
                part += drop * speed / 8;
                place = (gates >> place & 1) == 1 ? run.turned[place] : run.on[place];
                while (place != 255 && part >= 64 * boards.get(run.board[place]).length) {
                    part -= 64 * boards.get(run.board[place]).length;
                    jumped++;
                    place = (gates >> place & 1) == 1 ? run.turned[place] : run.on[place];
                }
                if (place == 255) end = t;
            }
            fastest = Math.max(fastest, speed);
        }
        out.add(new int[] {end, jumped, fastest});
        return out;
    }

    // ---- the score

    private String text;
    private int pos;
    private HashMap<String, List<Object[]>> told;
    private int storms;
    private int tokenAt;
    private String token;

    private void next() {
        int limit = Math.min(600, text.length());
        while (pos < limit && (text.charAt(pos) == ' ' || text.charAt(pos) == '\n')) pos++;
        tokenAt = pos;
        if (pos >= limit) {
            tokenAt = limit;
            token = "";
            return;
        }
        int p = pos;
        while (p < text.length() && (text.charAt(p) + "").matches("[a-z0-9]")) p++;
        if (p == pos) p++;
        token = text.substring(pos, p);
        if (!token.matches("[a-z]{1,8}|[0-9]{1,4}|;")) token = "#";
        pos = p;
    }

    private void want(String w) {
        if (!token.equals(w)) throw new Fault(1, tokenAt);
        next();
    }

    private int number(int lo, int hi) {
        if (!token.matches("[0-9]+")) throw new Fault(1, tokenAt);
        int n = Integer.parseInt(token);
        if (n < lo || n > hi) throw new Fault(2, tokenAt);
        next();
        return n;
    }

    private boolean isName() {
        return token.matches("[a-z]+") && !token.matches("storm|end|at|use|with|times|every|play");
    }

    private List<Object[]> acts(int depth) {
        List<Object[]> list = new ArrayList<>();
        while (token.matches("at|times|play")) list.add(act(depth));
        return list;
    }

    private Object[] act(int depth) {
        if (token.equals("at")) {
            next();
            int t = number(0, 2000);
            want("use");
            int m = number(0, machines.size() - 1);
            int n = 1;
            if (token.equals("with")) {
                next();
                int[] lo = {0, 1, 1, 1, 0};
                int[] hi = {9999, 99, 500, 99, 1};
                int k = machines.get(m)[0];
                n = number(lo[k], hi[k]);
            }
            want(";");
            return new Object[] {"at", t, m, n};
        }
        if (token.equals("times")) {
            if (depth == 4) throw new Fault(3, tokenAt);
            next();
            int n = number(1, 20);
            want("every");
            int k = number(1, 2000);
            List<Object[]> body = acts(depth + 1);
            want("end");
            return new Object[] {"times", n, k, body};
        }
        next();
        if (!isName()) throw new Fault(1, tokenAt);
        if (!told.containsKey(token)) throw new Fault(3, tokenAt);
        List<Object[]> body = told.get(token);
        next();
        want("at");
        int t = number(0, 2000);
        want(";");
        return new Object[] {"play", t, body};
    }

    private boolean tooMuch;

    @SuppressWarnings("unchecked")
    private void expand(List<Object[]> body, int offset, List<Ev> out) {
        for (Object[] a : body) {
            if (out.size() > 24) tooMuch = true;
            if (tooMuch) return;
            if (a[0].equals("at")) {
                out.add(new Ev(offset + (int) a[1], (int) a[2], (int) a[3]));
            } else if (a[0].equals("times")) {
                for (int i = 0; i < (int) a[1]; i++) expand((List<Object[]>) a[3], offset + i * (int) a[2], out);
            } else {
                expand((List<Object[]>) a[2], offset + (int) a[1], out);
            }
        }
    }

    int score(String t) {
        text = t;
        pos = 0;
        told = new HashMap<>();
        storms = 0;
        try {
            List<Object[]> all = new ArrayList<>();
            next();
            while (!token.equals("")) {
                if (token.equals("storm")) {
                    if (storms == 8) throw new Fault(3, tokenAt);
                    next();
                    if (!isName()) throw new Fault(1, tokenAt);
                    if (told.containsKey(token)) throw new Fault(3, tokenAt);
                    String name = token;
                    next();
                    List<Object[]> body = acts(0);
                    want("end");
                    told.put(name, body);
                    storms++;
                } else if (token.matches("at|times|play")) {
                    all.add(act(0));
                } else {
                    throw new Fault(1, tokenAt);
                }
            }
            if (t.length() > 600) throw new Fault(1, 600);
            List<Ev> out = new ArrayList<>();
            tooMuch = false;
            expand(all, 0, out);
            if (out.size() > 24) tooMuch = true;
            for (Ev e : out) tooMuch |= e.tick > 4000;
            if (tooMuch) throw new Fault(4, t.length());
            out.sort((p, q) -> p.tick - q.tick);
            events = out;
            fault = 0;
            return out.size();
        } catch (Fault f) {
            fault = f.kind;
            return -1 - f.place;
        }
    }

    int takes(Ev e) {
        int k = machines.get(e.machine)[0];
        return k == 1 ? 4 * e.number : k == 2 ? e.number : 1;
    }

    int worth(Ev e) {
        int k = machines.get(e.machine)[0];
        return k == 0 || k == 4 ? 1 : e.number;
    }

    // ---- the night

    List<int[]> sounds;
    int[] told5;

    void night() {
        sounds = new ArrayList<>();
        List<int[]> balls = new ArrayList<>(); // run, place, part, speed
        int[] gates = new int[4];
        int ended = 0, bumps = 0;
        for (int t = 0; t <= 4400; t++) {
            List<int[]> before = new ArrayList<>();
            for (int[] b : balls) before.add(b.clone());
            for (int[] b : balls) {
                if (b[1] == 255) continue;
                Run run = runs[b[0]];
                B bd = boards.get(run.board[b[1]]);
                b[3] += bd.slope;
                b[3] -= b[3] * bd.rough / 64;
                b[3] = Math.max(0, Math.min(1023, b[3]));
                b[2] += b[3];
                if (b[2] < 64 * bd.length) continue;
                if (bd.drop * b[3] / 64 > 0) sounds.add(new int[] {t, 100 * b[0] + b[1] + 100, bd.drop * b[3] / 64});
                b[3] -= b[3] * bd.turn / 16;
                b[2] += bd.drop * b[3] / 8 - 64 * bd.length;
                do {
                    b[1] = (gates[b[0]] >> b[1] & 1) == 1 ? run.turned[b[1]] : run.on[b[1]];
                    if (b[1] == 255 || b[2] < 64 * boards.get(run.board[b[1]]).length) break;
                    b[2] -= 64 * boards.get(run.board[b[1]]).length;
                } while (true);
                if (b[1] == 255) ended++;
            }
            for (int i = 0; i < balls.size(); i++) {
                for (int j = i + 1; j < balls.size(); j++) {
                    int[] a = balls.get(i), b = balls.get(j), c = before.get(i), d = before.get(j);
                    boolean one = a[0] == b[0] && a[1] == b[1] && c[1] == d[1] && a[1] == c[1] && a[1] != 255;
                    if (one && (c[2] < d[2] && a[2] > b[2] || c[2] > d[2] && a[2] < b[2])) {
                        bumps++;
                        int s = Math.abs(a[3] - b[3]) / 16;
                        if (s > 0) sounds.add(new int[] {t, 900 + a[0], s});
                    }
                }
            }
            for (Ev e : events) {
                if (e.tick != t) continue;
                int[] m = machines.get(e.machine);
                sounds.add(new int[] {t, e.machine, worth(e)});
                if (m[0] == 0) balls.add(new int[] {m[2], 0, 0, 0});
                if (m[0] == 4) gates[m[2]] = gates[m[2]] & ~(1 << m[3]) | e.number << m[3];
            }
        }
        int loud = 0;
        for (int[] s : sounds) loud += s[2];
        told5 = new int[] {balls.size(), ended, bumps, sounds.size(), loud};
    }

    // ---- men, by all that can stand ahead of each EVENT

    int best;
    int[] bestWho;
    private HashMap<Long, Integer> known;

    void made() {
        known = new HashMap<>();
        int[] last = new int[men.size()];
        java.util.Arrays.fill(last, -1);
        best = most(0, last);
        bestWho = new int[events.size()];
        int left = best;
        for (int e = 0; e < events.size(); e++) {
            bestWho[e] = -1;
            for (int m = 0; m < last.length && bestWho[e] < 0; m++) {
                if (!canDo(m, last[m], e)) continue;
                int old = last[m];
                last[m] = e;
                if (worth(events.get(e)) + most(e + 1, last) == left) {
                    bestWho[e] = m;
                    left -= worth(events.get(e));
                } else {
                    last[m] = old;
                }
            }
        }
    }

    private boolean canDo(int m, int last, int e) {
        int x = machines.get(events.get(e).machine)[1];
        if (last < 0) return Math.abs(men.get(m) - x) <= events.get(e).tick;
        Ev l = events.get(last);
        return l.tick + takes(l) + Math.abs(machines.get(l.machine)[1] - x) <= events.get(e).tick;
    }

    private int most(int e, int[] last) {
        if (e == events.size()) return 0;
        long key = e;
        for (int l : last) key = key * 26 + l + 1;
        Integer seen = known.get(key);
        if (seen != null) return seen;
        int most = most(e + 1, last);
        for (int m = 0; m < last.length; m++) {
            if (!canDo(m, last[m], e)) continue;
            int old = last[m];
            last[m] = e;
            most = Math.max(most, worth(events.get(e)) + most(e + 1, last));
            last[m] = old;
        }
        known.put(key, most);
        return most;
    }

    // ---- needs

    int balls(int r, int back) {
        if (runs[r] == null || back < 0 || back > 1000) return -1;
        List<int[]> f = fall(runs[r], 0, 0);
        int end = f.get(f.size() - 1)[0];
        if (end < 0) return -2;
        List<Integer> free = new ArrayList<>();
        for (Ev e : events) {
            int[] m = machines.get(e.machine);
            if (m[0] != 0 || m[2] != r) continue;
            boolean done = false;
            for (int i = 0; i < free.size() && !done; i++) {
                if (free.get(i) <= e.tick) {
                    free.set(i, e.tick + end + back);
                    done = true;
                }
            }
            if (!done) free.add(e.tick + end + back);
        }
        return free.size();
    }

    int fillings(int machine) {
        if (machine < 0 || machine >= machines.size() || machines.get(machine)[0] != 1) return -1;
        int cap = machines.get(machine)[2], takes = machines.get(machine)[3];
        List<Ev> own = new ArrayList<>();
        for (Ev e : events) if (e.machine == machine) own.add(e);
        int best = -2;
        for (int set = 0; set < 1 << own.size(); set++) {
            int left = cap, end = 0;
            boolean ok = true;
            for (int i = 0; i < own.size() && ok; i++) {
                Ev e = own.get(i);
                if ((set >> i & 1) == 1) {
                    ok = e.tick - end >= takes;
                    left = cap;
                }
                ok &= left >= e.number;
                left -= e.number;
                end = Math.max(end, e.tick + 4 * e.number);
            }
            if (ok && (best < 0 || Integer.bitCount(set) < best)) best = Integer.bitCount(set);
        }
        return best;
    }

    // ---- laid and worn

    int[] laid;

    int lay(int n, int[] wished) {
        if (n < 1 || n > 4 || boards.isEmpty()) return -1;
        int s = Math.min(8, boards.size());
        int all = 1;
        for (int i = 0; i < n; i++) all *= s;
        int best = Integer.MAX_VALUE;
        for (int code = 0; code < all; code++) {
            Run run = new Run();
            run.board = new int[n];
            run.on = new int[n];
            run.turned = new int[n];
            int c = code;
            for (int i = n - 1; i >= 0; i--) {
                run.board[i] = c % s;
                c /= s;
                run.on[i] = i == n - 1 ? 255 : i + 1;
                run.turned[i] = 255;
            }
            List<int[]> f = fall(run, 0, 0);
            int err = 0;
            for (int k = 0; k < Math.max(f.size() - 1, wished.length); k++) {
                boolean both = k < f.size() - 1 && k < wished.length;
                err += both ? Math.abs(f.get(k)[0] - wished[k]) : 100;
            }
            if (err < best) {
                best = err;
                laid = run.board;
            }
        }
        return best;
    }

    int worn(int r, int[] heard) {
        if (runs[r] == null) return -1;
        int n = runs[r].board.length;
        int best = -2;
        for (int set = 0; set < 1 << n; set++) {
            List<int[]> f = fall(runs[r], 0, set);
            boolean ok = true;
            for (int h : heard) {
                boolean found = false;
                for (int k = 0; k < f.size() - 1; k++) found |= f.get(k)[0] == h;
                ok &= found;
            }
            if (!ok) continue;
            if (best < 0 || Integer.bitCount(set) < Integer.bitCount(best)
                    || Integer.bitCount(set) == Integer.bitCount(best)
                    && (set >> Integer.numberOfTrailingZeros(set ^ best) & 1) == 1) {
                best = set;
            }
        }
        return best;
    }
}
