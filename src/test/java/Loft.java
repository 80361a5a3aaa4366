import java.util.NoSuchElementException;

/** A StormLoft under test: texts and bytes go to its tape, and answers that are not due are counted. */
final class Loft {
    private static int wrong = 0;
    private static int asked = 0;
    static final int THROWN = Integer.MIN_VALUE;

    final StormLoft x = new StormLoft();

    static void due(String what, long got, long want) {
        asked++;
        if (got != want) {
            wrong++;
            if (wrong <= 40) {
                System.out.println(what + " answered " + got + ", due is " + want);
            }
        }
    }

    static void due(String what, boolean got, boolean want) {
        due(what, got ? 1 : 0, want ? 1 : 0);
    }

    /** To be called last in each test's main. */
    static void close() {
        System.out.println(asked + " answers, " + wrong + " not as due");
        if (wrong > 0 || asked == 0) {
            System.exit(1);
        }
    }

    /** Bytes as the whole tape. */
    void tape(int... bytes) {
        x.end(0);
        for (int i = 0; i < bytes.length; i += 20) {
            int[] n = new int[5];
            for (int k = 0; k < 20; k++) {
                int b = i + k < bytes.length ? bytes[i + k] & 255 : 0;
                n[k / 4] |= b << 24 - 8 * (k % 4);
            }
            x.feed(n[0], n[1], n[2], n[3], n[4]);
        }
        x.end(bytes.length);
    }

    static int[] bytesOf(String text) {
        int[] bytes = new int[text.length()];
        for (int i = 0; i < bytes.length; i++) {
            bytes[i] = text.charAt(i);
        }
        return bytes;
    }

    void ticks(int... ticks) {
        int[] bytes = new int[2 * ticks.length];
        for (int i = 0; i < ticks.length; i++) {
            bytes[2 * i] = ticks[i] >> 8;
            bytes[2 * i + 1] = ticks[i] & 255;
        }
        tape(bytes);
    }

    int run(int r, int... bytes) {
        tape(bytes);
        return x.run(r);
    }

    int score(String text) {
        tape(bytesOf(text));
        return x.score();
    }

    void scored(String text, int answer, int fault) {
        due("score of " + text, score(text), answer);
        due("fault of " + text, x.fault(), fault);
    }

    int lay(int boards, int... wished) {
        ticks(wished);
        return x.lay(boards);
    }

    int worn(int r, int... heard) {
        ticks(heard);
        return x.worn(r);
    }

    int knock(int k, int what) {
        try {
            return x.knock(k, what);
        } catch (NoSuchElementException e) {
            return THROWN;
        }
    }

    int event(int e, int what) {
        try {
            return x.event(e, what);
        } catch (NoSuchElementException e2) {
            return THROWN;
        }
    }

    int sound(int k, int what) {
        try {
            return x.sound(k, what);
        } catch (NoSuchElementException e) {
            return THROWN;
        }
    }

    void knocked(int k, int tick, int place, int strong) {
        due("knock(" + k + ", 0)", knock(k, 0), tick);
        due("knock(" + k + ", 1)", knock(k, 1), place);
        due("knock(" + k + ", 2)", knock(k, 2), strong);
    }

    void heard(int k, int tick, int from, int strong) {
        due("sound(" + k + ", 0)", sound(k, 0), tick);
        due("sound(" + k + ", 1)", sound(k, 1), from);
        due("sound(" + k + ", 2)", sound(k, 2), strong);
    }
}
