/** The boundary cases of promises 6 and 7, and of what a BALL does on a PLACE and between two. */
final class EdgeFallTest {
    public static void main(String[] args) {
        roughIsCut();
        speedIsNotBelowNothing();
        speedIsAtMost1023();
        endOfBoard();
        lastPartOfEachLength();
        knockIsCut();
        turnIsCut();
        dropIsCut();
        speedThatItHasNow();
        justJumped();
        jumpedOnes();
        jumpedWithoutTurn();
        wayOfJumpedOnes();
        behindEndingTick();
        upToTick2000();
        numbersOfFall();
        gateBits();
        numbersOfKnock();
        latestFall();
        eachFallForItself();
        Loft.close();
    }

    private static void falls(Loft l, String what, int end, int knocks, int jumped, int fastest) {
        Loft.due(what + ": end", l.x.fall(0, 0, 0), end);
        Loft.due(what + ": KNOCKS", l.x.fall(0, 0, 1), knocks);
        Loft.due(what + ": JUMPED", l.x.fall(0, 0, 2), jumped);
        Loft.due(what + ": greatest SPEED", l.x.fall(0, 0, 3), fastest);
    }

    /** A loft whose RUN 0 has these BOARDS, one behind the other: LENGTH, SLOPE, ROUGH, DROP, TURN of each. */
    private static Loft row(int... numbers) {
        Loft l = new Loft();
        int n = numbers.length / 5;
        int[] run = new int[3 * n];
        for (int i = 0; i < n; i++) {
            int k = 5 * i;
            l.x.board(numbers[k], numbers[k + 1], numbers[k + 2], numbers[k + 3], numbers[k + 4]);
            run[3 * i] = i;
            run[3 * i + 1] = i == n - 1 ? 255 : i + 1;
            run[3 * i + 2] = 255;
        }
        l.run(0, run);
        return l;
    }

    /**
     * "then less by SPEED times ROUGH by 64, cut". 16 * 4 by 64 is 1 in TICK 1: 15, then 31 - 1 = 30, 46 - 2 = 44.
     * 21 * 3 by 64 is 63 by 64: 21, 42 - 1 = 41, 62 - 2 = 60 (part 62 ahead of that TICK).
     * 30 * 2 and 60 * 1 by 64 are none: 30, 60 - 1 = 59; 30, 60.
     */
    private static void roughIsCut() {
        falls(row(1, 16, 4, 0, 0), "16 * 4", 3, 0, 0, 44);
        falls(row(1, 21, 3, 0, 0), "21 * 3", 3, 0, 0, 60);
        falls(row(1, 30, 2, 0, 0), "30 * 2", 2, 0, 0, 59);
        falls(row(1, 30, 1, 0, 0), "60 * 1", 2, 0, 0, 60);
        falls(row(1, 30, 0, 0, 0), "no ROUGH", 2, 0, 0, 60);
    }

    /**
     * "0 at least". SPEED 8, 16, 24, 32: part 80, so it is on PLACE 1 at 16. SLOPE -9 brings it to 39, 53, 58, and
     * there it stays: the second BALL would meet the first one, if that came back.
     */
    private static void speedIsNotBelowNothing() {
        Loft l = row(1, 8, 0, 0, 0, 1, -9, 0, 0, 0);
        falls(l, "stays", -1, 0, 0, 32);
        l.x.machine(0, 0, 0, 0);
        l.score("at 0 use 0; at 6 use 0;");
        l.x.night();
        Loft.due("ended", l.x.told(1), 0);
        Loft.due("BUMPS", l.x.told(2), 0);
        falls(row(1, -9, 0, 9, 0), "never begins", -1, 0, 0, 0);
        falls(row(1, 0, 0, 9, 0), "flat", -1, 0, 0, 0);
        falls(row(1, 1, 15, 9, 0), "least SLOPE", 18, 0, 0, 4);
        falls(row(1, 9, 0, 0, 0, 1, -9, 0, 0, 0), "36, 27 and on", 6, 0, 0, 36);
    }

    /**
     * "1023 at most". With SLOPE 30 the SPEED is 1020 in TICK 34, the part 17850: at 38 * 64 of the seventh PLACE
     * it goes on to the next one, at part 58.
     */
    private static void speedIsAtMost1023() {
        int[] most = {1022, 1023, 1023, 1023};
        for (int slope = 2; slope <= 5; slope++) {
            Loft l = row(40, 30, 0, 0, 0, 40, 30, 0, 0, 0, 40, 30, 0, 0, 0, 40, 30, 0, 0, 0, 40, 30, 0, 0, 0,
                40, 30, 0, 0, 0, 38, 30, 0, 0, 0, 1, slope, 0, 0, 0);
            falls(l, "1020 and " + slope, 35, 0, 0, most[slope - 2]);
        }
        Loft l = row(40, 30, 0, 0, 0, 40, 30, 0, 0, 0, 40, 30, 0, 0, 0, 40, 30, 0, 0, 0, 40, 30, 0, 0, 0,
            40, 30, 0, 0, 0, 38, 30, 0, 0, 0, 16, 30, 1, 0, 0);
        falls(l, "1050 less 16 is more than 1023", 35, 0, 0, 1023);
    }

    /** "If it is 64 times LENGTH or more": 21 + 42 is 63; with SLOPE 10 and ROUGH 15 it is 8 + 14 + 19 + 23. */
    private static void endOfBoard() {
        falls(row(1, 21, 0, 0, 0), "63 of 64", 3, 0, 0, 63);
        falls(row(1, 22, 0, 0, 0), "66 of 64", 2, 0, 0, 44);
        falls(row(1, 10, 15, 0, 0), "64 of 64", 4, 0, 0, 23);
        falls(row(2, 21, 0, 0, 0), "126 of 128", 4, 0, 0, 84);
        falls(row(3, 16, 0, 0, 0), "160 of 192", 5, 0, 0, 80);
        falls(row(5, 2, 0, 0, 0), "306 of 320", 18, 0, 0, 36);
    }

    /** A SPEED of 1 a TICK: on a flat BOARD of each LENGTH it takes as many TICKS as there are parts. */
    private static void lastPartOfEachLength() {
        for (int length = 1; length <= 31; length++) {
            Loft l = row(1, 1, 15, 0, 8, 1, 0, 0, 0, 8, length, 0, 0, 0, 0);
            int onFlat = 18 + 31;
            int left = 64 * length;
            falls(l, "flat of " + length, onFlat + left > 2000 ? -1 : onFlat + left, 0, 0, 4);
        }
    }

    /** "it KNOCKS there with DROP times SPEED by 64, cut (no KNOCK, if that is 0)". */
    private static void knockIsCut() {
        knocks(row(1, 21, 0, 1, 0), 3, 0);
        knocks(row(2, 16, 0, 1, 0), 4, 1);
        knocks(row(1, 21, 0, 2, 0), 3, 1);
        knocks(row(2, 16, 0, 2, 0), 4, 2);
        knocks(row(2, 16, 0, 3, 0), 4, 3);
        knocks(row(1, 21, 0, 3, 0), 3, 2);
        knocks(row(1, 16, 0, 4, 8), 3, 3);
        knocks(row(1, 30, 0, 9, 0), 2, 8);
        knocks(row(1, 30, 0, 0, 0), 2, 0);
    }

    private static void knocks(Loft l, int tick, int strong) {
        falls(l, "strong " + strong, tick, strong == 0 ? 0 : 1, 0, l.x.fall(0, 0, 3));
        if (strong > 0) {
            l.knocked(0, tick, 0, strong);
        }
        Loft.due("no other KNOCK", l.knock(strong == 0 ? 0 : 1, 0), Loft.THROWN);
    }

    /**
     * "SPEED is less by SPEED times TURN by 16, cut". It comes with SPEED 4 to part 66 in TICK 18: 4 * 3 by 16 is
     * none, 4 * 4 is 1, 4 * 7 is 1, 4 * 8 is 2. 62 parts are left: 16, 21 or 31 TICKS.
     */
    private static void turnIsCut() {
        int[] end = {34, 34, 34, 34, 39, 39, 39, 39, 49};
        for (int turn = 0; turn <= 8; turn++) {
            falls(row(1, 1, 15, 0, turn, 1, 0, 0, 0, 0), "TURN " + turn, end[turn], 0, 0, 4);
        }
    }

    /**
     * "more by DROP times the SPEED that it has now by 8, cut". It comes with SPEED 5 to part 65 in TICK 15: 5 * 4
     * by 8 is 2 (part 3: 13 TICKS more), 5 * 5 is 3 (part 4: 12), 5 * 9 is 5 (part 6: 12).
     */
    private static void dropIsCut() {
        int[] end = {28, 28, 28, 28, 28, 27, 27, 27, 27, 27};
        for (int drop = 0; drop <= 9; drop++) {
            falls(row(1, 1, 12, drop, 0, 1, 0, 0, 0, 0), "DROP " + drop, end[drop], 0, 0, 5);
        }
        falls(row(1, 1, 12, 1, 0, 1, 0, 0, 0, 0, 1, 0, 0, 0, 0), "1 and 0", 15 + 26, 0, 0, 5);
        falls(row(1, 1, 12, 8, 0, 1, 0, 0, 0, 0, 1, 0, 0, 0, 0), "1 and 5", 15 + 25, 0, 0, 5);
    }

    /** Behind its TURN the SPEED is 4: 4 * 5 by 8 is 2, part 3, 16 TICKS more; 5 * 5 by 8 would be part 4 and 15. */
    private static void speedThatItHasNow() {
        falls(row(1, 1, 12, 5, 4, 1, 0, 0, 0, 0), "DROP behind TURN", 31, 0, 0, 5);
        falls(row(1, 1, 12, 6, 4, 1, 0, 0, 0, 0), "3 parts of DROP", 30, 0, 0, 5);
        Loft l = row(1, 16, 0, 4, 8);
        falls(l, "KNOCK ahead of TURN", 3, 1, 0, 32);
        l.knocked(0, 3, 0, 3);
    }

    /**
     * "As long as the part is 64 times the LENGTH of that or more, that is JUMPED". SLOPE 30, DROP 5: part 90 - 64 +
     * 37 = 63; SLOPE 27, DROP 7: 81 - 64 + 47 = 64.
     */
    private static void justJumped() {
        Loft stays = row(1, 30, 0, 5, 0, 1, 0, 0, 9, 0);
        falls(stays, "part 63", 3, 2, 0, 60);
        stays.knocked(1, 3, 1, 8);
        Loft jumps = row(1, 27, 0, 7, 0, 1, 0, 0, 9, 0);
        falls(jumps, "part 64", 2, 1, 1, 54);
        jumps.knocked(0, 2, 0, 5);
        Loft longer = row(1, 27, 0, 7, 0, 2, 0, 0, 9, 0);
        falls(longer, "part 64 of 128", 4, 2, 0, 54);
        longer.knocked(1, 4, 1, 7);
        Loft begin = row(1, 27, 0, 7, 0, 1, 0, 0, 9, 0, 1, 0, 0, 9, 0);
        falls(begin, "part 0 behind a jump", 4, 2, 1, 54);
        begin.knocked(1, 4, 2, 7);
    }

    /** SPEED 90 in TICK 3 at part 180 of 128: 52 + 9 * 90 by 8 = 153 parts behind it. */
    private static void jumpedOnes() {
        falls(row(2, 30, 0, 9, 0), "none", 3, 1, 0, 90);
        falls(row(2, 30, 0, 9, 0, 1, 0, 0, 9, 0), "one", 3, 1, 1, 90);
        falls(row(2, 30, 0, 9, 0, 1, 0, 0, 9, 0, 1, 0, 0, 9, 0), "two", 3, 1, 2, 90);
        Loft third = row(2, 30, 0, 9, 0, 1, 0, 0, 9, 0, 1, 0, 0, 9, 0, 1, 0, 0, 9, 0);
        falls(third, "two of three", 4, 2, 2, 90);
        third.knocked(1, 4, 3, 12);
        falls(row(2, 30, 0, 9, 0, 2, 0, 0, 9, 0, 1, 0, 0, 9, 0), "a longer one", 4, 2, 1, 90);
        falls(row(2, 30, 0, 9, 0, 3, 0, 0, 9, 0), "too long", 4, 2, 0, 90);
    }

    /** "it is on the next one, without KNOCK and TURN": PLACE 1 of TURN 8 and DROP 9 leaves SPEED 90 as it is. */
    private static void jumpedWithoutTurn() {
        Loft l = row(2, 30, 0, 9, 0, 2, -9, 15, 9, 8, 2, 0, 0, 9, 0);
        falls(l, "as it was", 5, 2, 1, 90);
        l.knocked(0, 3, 0, 12);
        l.knocked(1, 5, 2, 12);
    }

    /** A jumped PLACE leads on as its GATE stands: from PLACE 1 to 2 or, turned, to 3, from there to THE PIT. */
    private static void wayOfJumpedOnes() {
        Loft l = new Loft();
        l.x.board(2, 30, 0, 9, 0);
        l.x.board(2, 0, 0, 9, 0);
        l.x.board(1, 0, 0, 0, 0);
        l.run(0, 0, 1, 255, 1, 2, 3, 2, 255, 3, 2, 255, 255);
        int[] end = {4, 3, 4, 3, 5, 3, 4, 3};
        int[] jumped = {1, 0, 1, 0, 1, 0, 1, 0};
        for (int gates = 0; gates < 8; gates++) {
            Loft.due("end of GATES " + gates, l.x.fall(0, gates, 0), end[gates]);
            Loft.due("JUMPED of GATES " + gates, l.x.fall(0, gates, 2), jumped[gates]);
        }
        l.run(0, 0, 1, 255, 1, 2, 255, 2, 255, 255);
        Loft.due("on PLACE 2", l.x.fall(0, 0, 0), 4);
        Loft.due("in THE PIT", l.x.fall(0, 2, 0), 3);
        Loft.due("JUMPED to THE PIT", l.x.fall(0, 2, 2), 1);
    }

    /** "3 the greatest SPEED behind any TICK": behind its last TICK the SPEED is less by TURN. */
    private static void behindEndingTick() {
        falls(row(1, 30, 0, 0, 8), "60 less 30", 2, 0, 0, 30);
        falls(row(1, 30, 0, 0, 7), "60 less 26", 2, 0, 0, 34);
        falls(row(1, 30, 0, 0, 0), "60", 2, 0, 0, 60);
    }

    private static Loft slowly(int places, int rough, int lastLength) {
        int[] numbers = new int[5 * places];
        for (int p = 0; p < places; p++) {
            numbers[5 * p] = p == places - 1 ? lastLength : 40;
            numbers[5 * p + 1] = 1;
            numbers[5 * p + 2] = rough;
            numbers[5 * p + 3] = p == places - 1 ? 9 : 0;
        }
        return row(numbers);
    }

    /**
     * "followed up to TICK 2000 (its first TICK is 1)". With ROUGH 4 the SPEED comes to 15 and stays: 15 * t - 105
     * parts in t TICKS, 29895 up to TICK 2000, 467 LENGTHS being 29888. With ROUGH 5 it is 12 * t - 66: 23934,
     * 374 LENGTHS being 23936.
     */
    private static void upToTick2000() {
        Loft in = slowly(12, 4, 27);
        falls(in, "in TICK 2000", 2000, 1, 0, 15);
        in.knocked(0, 2000, 11, 2);
        Loft late = slowly(10, 5, 14);
        falls(late, "in TICK 2001", -1, 0, 0, 12);
        Loft.due("no KNOCK", late.knock(0, 0), Loft.THROWN);
        falls(slowly(12, 4, 28), "in TICK 2005", -1, 0, 0, 15);
        falls(slowly(10, 5, 13), "in TICK 1995", 1995, 1, 0, 12);
    }

    /** "-2: no such RUN, or another what." */
    private static void numbersOfFall() {
        Loft l = row(1, 30, 0, 9, 0);
        int[] no = {-1, 1, 2, 3, 4, 255, Integer.MIN_VALUE, Integer.MAX_VALUE, 1 << 16};
        for (int r : no) {
            Loft.due("fall of RUN " + r, l.x.fall(r, 0, 0), -2);
        }
        int[] whats = {-1, 4, 5, Integer.MIN_VALUE, Integer.MAX_VALUE};
        for (int what : whats) {
            Loft.due("fall's what " + what, l.x.fall(0, 0, what), -2);
        }
        falls(l, "RUN 0", 2, 1, 0, 60);
        for (int r = 3; r >= 1; r--) {
            l.run(r, 0, 255, 255);
            Loft.due("fall of RUN " + r, l.x.fall(r, 0, 0), 2);
        }
    }

    /** "its GATES as the bits of a number (PLACE by PLACE; only those of PLACES are looked at)". */
    private static void gateBits() {
        for (int n = 1; n <= 12; n++) {
            Loft l = new Loft();
            l.x.board(10, 8, 0, 0, 0);
            int[] run = new int[3 * n];
            for (int p = 0; p < n; p++) {
                run[3 * p + 1] = p == n - 1 ? 255 : p + 1;
                run[3 * p + 2] = 255;
            }
            l.run(0, run);
            int all = l.x.fall(0, 0, 0);
            int last = 0;
            for (int p = 0; p < n; p++) {
                int end = l.x.fall(0, 1 << p, 0);
                Loft.due("GATE " + p + " of " + n, p == n - 1 ? end == all : end > last && end < all, true);
                last = end;
                Loft.due("the lesser one counts", l.x.fall(0, -1 << p, 0), end);
            }
            Loft.due("no PLACES there", l.x.fall(0, -1 << n, 0), all);
            Loft.due("the highest bit", l.x.fall(0, Integer.MIN_VALUE, 0), all);
            Loft.due("all bits", l.x.fall(0, -1, 0), l.x.fall(0, 1, 0));
        }
    }

    /** "NoSuchElementException: there is none such, or another what." */
    private static void numbersOfKnock() {
        for (int n = 0; n <= 12; n++) {
            int[] numbers = new int[5 * Math.max(1, n)];
            for (int p = 0; p < n || p < 1; p++) {
                numbers[5 * p] = 1;
                numbers[5 * p + 1] = 30;
                numbers[5 * p + 2] = 15;
                numbers[5 * p + 3] = n == 0 ? 0 : 3;
                numbers[5 * p + 4] = 8;
            }
            Loft l = row(numbers);
            Loft.due("KNOCKS", l.x.fall(0, 0, 1), n);
            for (int what = 0; what <= 2; what++) {
                Loft.due("the first", l.knock(0, what) == Loft.THROWN, n == 0);
                Loft.due("the last", n == 0 || l.knock(n - 1, what) != Loft.THROWN, true);
                Loft.due("behind the last", l.knock(n, what), Loft.THROWN);
                Loft.due("ahead of the first", l.knock(-1, what), Loft.THROWN);
                Loft.due("far", l.knock(Integer.MAX_VALUE, what), Loft.THROWN);
                Loft.due("far ahead", l.knock(Integer.MIN_VALUE, what), Loft.THROWN);
            }
            Loft.due("PLACE of the last", n == 0 ? 0 : l.knock(n - 1, 1), Math.max(0, n - 1));
            int[] whats = {-1, 3, 4, Integer.MIN_VALUE, Integer.MAX_VALUE};
            for (int what : whats) {
                Loft.due("knock's what " + what, l.knock(0, what), Loft.THROWN);
            }
        }
    }

    /** What a FALL has heard, jumped and come to is nothing to the next one. */
    private static void eachFallForItself() {
        Loft l = new Loft();
        l.x.board(2, 30, 0, 9, 0);
        l.x.board(1, 0, 0, 9, 0);
        l.x.board(1, 8, 0, 0, 0);
        l.run(0, 0, 1, 255, 1, 255, 255);
        l.run(1, 1, 255, 255);
        l.run(2, 2, 255, 255);
        int[][] want = {{3, 1, 1, 90}, {-1, 0, 0, 0}, {4, 0, 0, 32}};
        int[] order = {0, 1, 2, 1, 0, 2, 0};
        for (int r : order) {
            for (int what = 0; what <= 3; what++) {
                Loft.due("fall(" + r + ", 0, " + what + ")", l.x.fall(r, 0, what), want[r][what]);
            }
            Loft.due("balls of " + r, l.x.balls(r, 0), r == 1 ? -2 : 0);
        }
    }

    /** "Of KNOCK k of the latest fall() that was not -2", whatever was asked of it. */
    private static void latestFall() {
        Loft l = new Loft();
        l.x.board(1, 30, 0, 9, 0);
        l.x.board(1, 8, 0, 0, 0);
        l.run(0, 0, 255, 255);
        l.run(1, 1, 255, 255);
        Loft.due("ahead of any", l.knock(0, 0), Loft.THROWN);
        for (int what = 0; what <= 3; what++) {
            l.x.fall(0, 0, what);
            l.knocked(0, 2, 0, 8);
            Loft.due("-2", l.x.fall(2, 0, what), -2);
            Loft.due("-2", l.x.fall(1, 0, -1), -2);
            Loft.due("-2", l.x.fall(1, 0, 4), -2);
            l.knocked(0, 2, 0, 8);
            Loft.due("another one", l.x.fall(1, 0, what) >= 0, true);
            Loft.due("without KNOCKS", l.knock(0, 0), Loft.THROWN);
        }
    }
}
