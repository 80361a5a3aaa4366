import java.util.List;
import java.util.Random;

/** Lofts made by seeded chance, each call compared with Model. */
final class ModelTest {
    private static final String[] NAMES = {"aa", "b", "roar", "longname", "zz"};

    private final Random chance;
    private final Loft loft = new Loft();
    private final StormLoft x = loft.x;
    private final Model model = new Model();
    private final String name;
    /** Balls of RUN 0 go two ways that meet again, so that they come upon one another. */
    private final boolean meeting;
    /** Nearly all MACHINES are BARRELS that are turned often. */
    private final boolean stony;

    private ModelTest(long seed) {
        chance = new Random(seed);
        name = "seed " + seed + ": ";
        meeting = seed % 3 == 0;
        stony = seed % 3 == 1;
    }

    public static void main(String[] args) {
        for (int seed = 0; seed < 600; seed++) {
            new ModelTest(seed).all();
        }
        Loft.close();
    }

    private int from(int least, int most) {
        return least + chance.nextInt(most - least + 1);
    }

    private void due(String what, long got, long want) {
        Loft.due(name + what, got, want);
    }

    private void all() {
        boolean wild = meeting || chance.nextInt(3) == 0;
        int boards = from(1, 10);
        for (int i = 0; i < boards; i++) {
            int l = from(1, wild ? 40 : 8);
            int s = from(wild ? -9 : 0, 30);
            int r = from(0, wild ? 15 : 4);
            int d = from(0, 9);
            int t = from(0, 8);
            due("board", x.board(l, s, r, d, t), i);
            model.board(l, s, r, d, t);
        }
        for (int r = 0; r < 4; r++) {
            runAt(r, boards);
        }
        int machines = from(4, 12);
        for (int i = 0; i < machines; i++) {
            machine(i);
        }
        for (int i = 0; i < 3; i++) {
            int n = scoreAndEvents();
            needs(n);
        }
        layAndWear();
        runAt(from(0, 3), boards);
        night();
        due("count(5)", x.count(5), 0);
    }

    private void runAt(int r, int boards) {
        int n = from(1, 12);
        int[] b = new int[3 * n];
        for (int p = 0; p < n; p++) {
            b[3 * p] = from(0, boards - 1);
            b[3 * p + 1] = p == n - 1 ? 255 : chance.nextInt(3) > 0 ? p + 1 : from(p + 1, n - 1);
            b[3 * p + 2] = p == n - 1 || chance.nextInt(5) == 0 ? 255 : from(p + 1, n - 1);
        }
        if (meeting && r == 0) {
            n = 5;
            b = new int[] {0, 1, 2, from(0, boards - 1), 3, 3, from(0, boards - 1), 3, 3,
                from(0, boards - 1), 4, 255, from(0, boards - 1), 255, 255};
        }
        due("run", loft.run(r, b), n);
        model.run(r, b);
        for (int i = 0; i < 3; i++) {
            int gates = i == 0 ? 0 : chance.nextInt();
            List<int[]> f = model.fall(model.runs[r], gates, 0);
            int[] last = f.get(f.size() - 1);
            due("fall 0", x.fall(r, gates, 0), last[0]);
            due("fall 1", x.fall(r, gates, 1), f.size() - 1);
            due("fall 2", x.fall(r, gates, 2), last[1]);
            due("fall 3", x.fall(r, gates, 3), last[2]);
            for (int k = 0; k < f.size() - 1; k++) {
                for (int w = 0; w < 3; w++) {
                    due("knock", loft.knock(k, w), f.get(k)[w]);
                }
            }
            due("knock", loft.knock(f.size() - 1, 0), Loft.THROWN);
        }
    }

    private void machine(int i) {
        int kind = i < 2 ? 0 : i == 2 ? 4 : stony ? 1 : from(0, 4);
        int at = from(0, chance.nextInt(2) == 0 ? 15 : 99);
        int a = i == 0 || i == 2 ? 0 : from(0, 3);
        int b = 0;
        if (kind == 1) {
            a = from(5, 30);
            b = from(1, stony ? 20 : 60);
        } else if (kind == 4) {
            b = meeting && i == 2 ? 0 : from(0, model.runs[a].board.length - 1);
        }
        due("machine", x.machine(kind, at, a, b), i);
        model.machines.add(new int[] {kind, at, a, b});
    }

    private String acts(int depth, int told, int span) {
        StringBuilder s = new StringBuilder();
        int n = from(0, depth == 0 ? 6 : 3);
        for (int i = 0; i < n; i++) {
            int kind = chance.nextInt(7);
            if (kind < 4 || kind == 6 && told == 0) {
                int m = from(0, model.machines.size() - 1);
                int[] most = {9999, 20, 40, 99, 1};
                int[] least = {0, 1, 1, 1, 0};
                int k = model.machines.get(m)[0];
                s.append("at ").append(from(0, span)).append(" use ").append(m);
                if (chance.nextInt(3) > 0) {
                    s.append(" with ").append(from(least[k], most[k]));
                }
                s.append(';');
            } else if (kind < 6) {
                s.append("times ").append(from(1, 3)).append(" every ").append(from(1, span / 2 + 1));
                s.append(' ').append(depth < 3 ? acts(depth + 1, told, span) : "").append("end\n");
            } else {
                s.append("play ").append(NAMES[from(0, told - 1)]).append(" at ").append(from(0, span)).append(';');
            }
        }
        return s.toString();
    }

    /** Many EVENTS of few MACHINES, so that balls meet, barrels grow empty and men are wanted twice. */
    private String busy() {
        StringBuilder s = new StringBuilder();
        int n = from(8, 24);
        int span = from(10, 60) * (chance.nextBoolean() ? 1 : 8);
        int few = meeting ? 3 : stony ? 2 : from(1, Math.min(4, model.machines.size()));
        int first = meeting ? 0 : stony ? 2 : from(0, model.machines.size() - few);
        for (int i = 0; i < n; i++) {
            int m = first + from(0, few - 1);
            int[] most = {1, 8, 30, 40, 1};
            int k = model.machines.get(m)[0];
            s.append("at ").append(from(0, span)).append(" use ").append(m).append(" with ");
            s.append(from(k == 4 || k == 0 ? 0 : 1, most[k])).append(';');
        }
        return s.toString();
    }

    private String text() {
        if (chance.nextInt(3) == 0 || meeting || stony) {
            return busy();
        }
        StringBuilder s = new StringBuilder();
        int span = chance.nextInt(3) == 0 ? 700 : chance.nextInt(2) == 0 ? 120 : 40;
        int told = from(0, 3);
        for (int i = 0; i < told; i++) {
            s.append("storm ").append(NAMES[i]).append(' ').append(acts(1, i, span)).append("end ");
        }
        s.append(acts(0, told, span));
        if (chance.nextInt(4) == 0) {
            s.append(acts(0, told, span));
        }
        return s.length() > 640 ? s.substring(0, 640) : s.toString();
    }

    private String spoiled(String text) {
        if (text.isEmpty()) {
            return "x";
        }
        StringBuilder s = new StringBuilder(text);
        int at = chance.nextInt(s.length());
        String signs = "0129; \naeu.A\t" + (char) 233;
        switch (chance.nextInt(4)) {
            case 0 -> s.setCharAt(at, signs.charAt(chance.nextInt(signs.length())));
            case 1 -> s.deleteCharAt(at);
            case 2 -> s.insert(at, signs.charAt(chance.nextInt(signs.length())));
            default -> s.setLength(at);
        }
        return s.length() > 640 ? s.substring(0, 640) : s.toString();
    }

    private int scoreAndEvents() {
        for (int i = 0; i < 6; i++) {
            String text = i % 2 == 0 ? spoiled(text()) : text();
            int want = model.score(text);
            due("score of " + text, loft.score(text), want);
            due("fault of " + text, x.fault(), model.fault);
        }
        int n = model.events.size();
        due("count(4)", x.count(4), n);
        for (int e = 0; e < n; e++) {
            Model.Ev ev = model.events.get(e);
            due("event 0", loft.event(e, 0), ev.tick);
            due("event 1", loft.event(e, 1), ev.machine);
            due("event 2", loft.event(e, 2), ev.number);
            due("event 3", loft.event(e, 3), model.takes(ev));
            due("event 4", loft.event(e, 4), model.worth(ev));
        }
        due("event", loft.event(n, 0), Loft.THROWN);
        return n;
    }

    private void needs(int n) {
        while (model.men.size() < 4 && chance.nextInt(2) == 0) {
            int at = from(0, chance.nextInt(2) == 0 ? 15 : 99);
            due("man", x.man(at), model.men.size());
            model.men.add(at);
        }
        if (n <= 14 || model.men.size() < 3 || chance.nextInt(20) == 0) {
            model.made();
            due("made", x.made(), model.best);
            for (int e = 0; e < n; e++) {
                due("who", x.who(e), model.bestWho[e]);
            }
        }
        for (int r = 0; r < 4; r++) {
            int back = chance.nextInt(3) == 0 ? from(0, 1000) : from(0, 30);
            due("balls", x.balls(r, back), model.balls(r, back));
        }
        for (int m = 0; m < 12; m++) {
            int own = 0;
            for (Model.Ev e : model.events) {
                own += e.machine == m ? 1 : 0;
            }
            if (own < 12) {
                due("fillings", x.fillings(m), model.fillings(m));
            }
        }
        night();
    }

    private void night() {
        model.night();
        int kept = Math.min(300, model.sounds.size());
        due("night", x.night(), kept);
        for (int w = 0; w < 5; w++) {
            due("told " + w, x.told(w), model.told5[w]);
        }
        for (int k = 0; k < kept; k++) {
            for (int w = 0; w < 3; w++) {
                due("sound", loft.sound(k, w), model.sounds.get(k)[w]);
            }
        }
        due("sound", loft.sound(kept, 0), Loft.THROWN);
    }

    private int[] rising(int n, int step) {
        int[] ticks = new int[n];
        int t = from(0, step);
        for (int i = 0; i < n; i++) {
            ticks[i] = t;
            t += from(1, step);
        }
        return ticks;
    }

    private void layAndWear() {
        for (int n = 1; n <= (chance.nextInt(8) == 0 ? 4 : 3); n++) {
            int[] wished = rising(from(0, 5), chance.nextBoolean() ? 12 : 40);
            due("lay", loft.lay(n, wished), model.lay(n, wished));
            for (int k = 0; k < n; k++) {
                due("laid", x.laid(k), model.laid[k]);
            }
            due("laid", x.laid(n), -1);
        }
        for (int r = 0; r < 4; r++) {
            int size = model.runs[r].board.length;
            List<int[]> f = model.fall(model.runs[r], 0, chance.nextInt(1 << size) & chance.nextInt(1 << size));
            int[] heard = new int[10];
            int n = 0;
            for (int k = 0; k < f.size() - 1 && n < 10; k++) {
                if (chance.nextInt(3) > 0) {
                    heard[n] = f.get(k)[0];
                    n++;
                }
            }
            heard = java.util.Arrays.copyOf(heard, n);
            if (chance.nextInt(8) == 0) {
                heard = rising(from(1, 3), 12);
            }
            if (size <= 8 || chance.nextInt(6) == 0) {
                due("worn", loft.worn(r, heard), model.worn(r, heard));
            }
        }
    }
}
