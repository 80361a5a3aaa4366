/** The boundary cases of promises 20 to 22: RUNS LAID as they are wished, and WORN steps. */
final class EdgeCarpenterTest {
    private static final int[] FAR = {Integer.MIN_VALUE, -65536, -2, -1, 65536, Integer.MAX_VALUE};

    public static void main(String[] args) {
        numbersOfLay();
        sizesOfTicks();
        risingTicks();
        bytesOfTicks();
        noBoards();
        firstEightBoards();
        differences();
        oneWithoutTheOther();
        firstOfLikeOnes();
        boardsBehindOneThatStops();
        laidJumps();
        layUpToTick2000();
        numbersOfLaid();
        latestLay();
        numbersOfWorn();
        noneHeard();
        behindOneAnother();
        knockOfOne();
        speedOfOne();
        eachIsAKnock();
        noKnockWhenWorn();
        dropOfNothing();
        fewestSteps();
        likeSets();
        wornJumps();
        gatesAtNothing();
        wornUpToTick2000();
        runStays();
        Loft.close();
    }

    private static Loft stock(int... numbers) {
        Loft l = new Loft();
        for (int k = 0; k + 4 < numbers.length; k += 5) {
            l.x.board(numbers[k], numbers[k + 1], numbers[k + 2], numbers[k + 3], numbers[k + 4]);
        }
        return l;
    }

    /** A loft whose RUN 0 has these BOARDS, one behind the other: LENGTH, SLOPE, ROUGH, DROP, TURN of each. */
    private static Loft row(int... numbers) {
        Loft l = stock(numbers);
        int n = numbers.length / 5;
        int[] run = new int[3 * n];
        for (int p = 0; p < n; p++) {
            run[3 * p] = p;
            run[3 * p + 1] = p == n - 1 ? 255 : p + 1;
            run[3 * p + 2] = 255;
        }
        l.run(0, run);
        return l;
    }

    private static void laid(Loft l, int error, int[] boards, int... wished) {
        String what = "lay(" + boards.length + ") for " + java.util.Arrays.toString(wished);
        Loft.due(what, l.lay(boards.length, wished), error);
        for (int k = 0; k < boards.length; k++) {
            Loft.due(what + ": laid(" + k + ")", l.x.laid(k), boards[k]);
        }
        Loft.due(what + ": behind the last", l.x.laid(boards.length), -1);
    }

    private static int[] of(int... boards) {
        return boards;
    }

    // ---- LAID

    /** "LAID from so many BOARDS (1 to 4)". */
    private static void numbersOfLay() {
        Loft l = stock(1, 30, 0, 9, 0);
        for (int n = -2; n <= 7; n++) {
            boolean told = n >= 1 && n <= 4;
            Loft.due("lay(" + n + ")", l.lay(n, 2), told ? l.lay(n, 2) : -1);
            Loft.due("empty then", l.x.count(5), 0);
            for (int k = 0; k < 5; k++) {
                Loft.due("laid(" + k + ")", l.x.laid(k), told && k < n || n > 4 && k < 4 ? 0 : -1);
            }
        }
        for (int far : FAR) {
            Loft.due("lay(" + far + ")", l.lay(far, 2), -1);
        }
    }

    /** "the tape's bytes (up to 20, two a TICK, ..)": each number of bytes, of lay() and of worn(). */
    private static void sizesOfTicks() {
        for (int size = 0; size <= 42; size++) {
            Loft l = row(1, 0, 0, 9, 0);
            int[] bytes = new int[size];
            for (int i = 0; i < size; i++) {
                bytes[i] = i % 2 == 0 ? i : 7;
            }
            boolean told = size % 2 == 0 && size <= 20;
            l.tape(bytes);
            Loft.due("lay by " + size + " bytes", l.x.lay(1), told ? 50 * size : -1);
            Loft.due("empty then", l.x.count(5), 0);
            l.tape(bytes);
            Loft.due("worn by " + size + " bytes", l.x.worn(0), size == 0 ? 0 : told ? -2 : -1);
            Loft.due("empty then", l.x.count(5), 0);
        }
    }

    /** "each TICK above the one ahead", of lay() and of worn(): at each of ten TICKS. */
    private static void risingTicks() {
        for (int at = 1; at < 10; at++) {
            for (int more = -1; more <= 1; more++) {
                Loft l = row(1, 0, 0, 9, 0);
                int[] ticks = new int[10];
                for (int i = 0; i < 10; i++) {
                    ticks[i] = 300 * i + 255 + (i >= at ? more - 300 : 0);
                }
                Loft.due("lay, more by " + more, l.lay(1, ticks), more > 0 ? 1000 : -1);
                Loft.due("worn, more by " + more, l.worn(0, ticks), more > 0 ? -2 : -1);
            }
        }
        Loft l = row(1, 0, 0, 9, 0);
        Loft.due("the first may be 0", l.lay(1, 0), 100);
        Loft.due("0 and 0", l.lay(1, 0, 0), -1);
        Loft.due("0 and 1", l.lay(1, 0, 1), 200);
        Loft.due("65534 and 65535", l.lay(1, 65534, 65535), 200);
        Loft.due("65535 and 65535", l.lay(1, 65535, 65535), -1);
        Loft.due("65535 and 0", l.lay(1, 65535, 0), -1);
        Loft.due("255 and 256", l.lay(1, 255, 256), 200);
        Loft.due("256 and 255", l.lay(1, 256, 255), -1);
    }

    /** "two a TICK, the higher one first": the KNOCK comes in TICK 2. */
    private static void bytesOfTicks() {
        Loft l = stock(1, 30, 0, 9, 0);
        int[] ticks = {0, 1, 2, 3, 127, 128, 255, 256, 511, 32767, 32768, 65535};
        for (int t : ticks) {
            laid(l, Math.abs(t - 2), of(0), t);
        }
        l.tape(0, 2);
        Loft.due("0, 2", l.x.lay(1), 0);
        l.tape(2, 0);
        Loft.due("2, 0", l.x.lay(1), 510);
    }

    /** "NONE: .. or no BOARDS." */
    private static void noBoards() {
        Loft l = new Loft();
        Loft.due("no BOARDS", l.lay(1, 2), -1);
        Loft.due("empty then", l.x.count(5), 0);
        Loft.due("no BOARDS, none wished", l.lay(4), -1);
        Loft.due("laid", l.x.laid(0), -1);
        l.x.board(1, 30, 0, 9, 0);
        laid(l, 0, of(0), 2);
    }

    /** "of the stock's first 8": the eighth is taken, the ninth is not. */
    private static void firstEightBoards() {
        for (int at = 0; at < 16; at++) {
            Loft l = new Loft();
            for (int i = 0; i < 16; i++) {
                boolean wished = i == at;
                l.x.board(wished ? 1 : 40, wished ? 30 : 1, 0, 9, 0);
            }
            laid(l, at < 8 ? 0 : 70, of(at < 8 ? at : 0), 2);
        }
        for (int size = 1; size <= 9; size++) {
            Loft l = new Loft();
            for (int i = 0; i < size; i++) {
                l.x.board(i == size - 1 ? 1 : 40, i == size - 1 ? 30 : 1, 0, 9, 0);
            }
            Loft.due("the last of " + size, l.lay(1, 2), size <= 8 ? 0 : 70);
        }
    }

    /** "the difference of the TICK of the k-th KNOCK of its FALL and the k-th TICK wished", to either side. */
    private static void differences() {
        Loft one = stock(1, 16, 0, 4, 0);
        for (int t = 0; t <= 6; t++) {
            laid(one, Math.abs(t - 3), of(0), t);
        }
        Loft two = stock(4, 16, 0, 4, 0, 3, 0, 0, 4, 0);
        laid(two, 0, of(0, 1), 6, 7);
        laid(two, 0, of(0, 0), 6, 8);
        laid(two, 1, of(0, 1), 5, 7);
        laid(two, 1, of(0, 0), 5, 8);
        laid(two, 1, of(0, 0), 6, 9);
        laid(two, 4, of(0, 1), 4, 5);
        laid(two, 2, of(0, 0), 7, 9);
    }

    /** "of a KNOCK or a wish without the other one 100; all together". */
    private static void oneWithoutTheOther() {
        Loft one = stock(1, 30, 0, 9, 0);
        laid(one, 100, of(0));
        laid(one, 0, of(0), 2);
        laid(one, 100, of(0), 2, 3);
        laid(one, 101, of(0), 3, 4);
        laid(one, 900, of(0), 2, 3, 4, 5, 6, 7, 8, 9, 10, 11);
        Loft none = stock(1, 30, 0, 0, 0);
        laid(none, 0, of(0));
        laid(none, 100, of(0), 2);
        laid(none, 1000, of(0), 2, 3, 4, 5, 6, 7, 8, 9, 10, 11);
        Loft two = stock(2, 16, 0, 4, 0);
        int first = 4;
        Loft.due("KNOCKS of two", two.run(0, 0, 1, 1, 0, 255, 255), 2);
        two.x.fall(0, 0, 0);
        int second = two.knock(1, 0);
        laid(two, 200, of(0, 0));
        laid(two, 100, of(0, 0), first);
        laid(two, 0, of(0, 0), first, second);
        laid(two, 100, of(0, 0), first, second, second + 1);
        laid(two, 100 + 65535 - first, of(0, 0), 65535);
    }

    /** "The least ERR; of like ones the first (the lesser BOARD first)." */
    private static void firstOfLikeOnes() {
        Loft l = stock(1, 30, 0, 9, 0, 1, 30, 0, 9, 0, 1, 29, 0, 9, 0);
        laid(l, 0, of(0), 2);
        laid(l, 98, of(0), 100);
        Loft two = stock(2, 0, 0, 4, 0, 2, 16, 0, 4, 0, 2, 16, 0, 4, 0, 2, 0, 0, 4, 0);
        laid(two, 0, of(1, 0), 4, 5);
        laid(two, 1, of(1, 0), 4, 6);
        laid(two, 100, of(0, 0), 1);
        laid(two, 104, of(1, 0), 6, 7, 8);
        Loft late = stock(40, 1, 0, 9, 0, 1, 30, 0, 9, 0);
        laid(late, 0, of(1), 2);
        laid(late, 0, of(0), 72);
        laid(late, 35, of(0), 37);
        laid(late, 34, of(1), 36);
    }

    /** A BOARD that never lets the ball go: what is laid behind it is the first. */
    private static void boardsBehindOneThatStops() {
        Loft l = stock(1, 30, 0, 9, 0, 1, -1, 0, 0, 0);
        laid(l, 0, of(1));
        laid(l, 0, of(1, 0, 0, 0));
        laid(l, 101, of(0), 1, 3);
        Loft stop = stock(1, 0, 0, 9, 0, 1, -9, 0, 9, 0);
        laid(stop, 300, of(0, 0, 0, 0), 1, 2, 3);
    }

    /** A jumped BOARD does not KNOCK: SLOPE 27, DROP 7 comes to part 64 of the next one, SLOPE 30, DROP 5 to part 63. */
    private static void laidJumps() {
        Loft jumps = stock(1, 27, 0, 7, 0, 2, 0, 0, 9, 0);
        laid(jumps, 0, of(0, 0), 2);
        laid(jumps, 0, of(0, 1), 2, 4);
        laid(jumps, 1, of(0, 1), 2, 3);
        laid(jumps, 0, of(0, 0, 0), 2, 3);
        Loft stays = stock(1, 30, 0, 5, 0, 1, 0, 0, 9, 0);
        laid(stays, 0, of(0, 0), 2, 3);
        laid(stays, 100, of(0, 0), 2);
    }

    /** Its FALL is followed up to TICK 2000: BOARDS 0 to 3 knock in that or, BOARD 3 being longer by 1, in TICK 2001. */
    private static void layUpToTick2000() {
        Loft in = stock(1, 1, 15, 0, 8, 30, 0, 0, 0, 0, 31, 0, 0, 0, 0, 16, 2, 0, 9, 0);
        laid(in, 0, of(0, 1, 2, 3), 2000);
        laid(in, 1, of(0, 1, 2, 3), 2001);
        Loft late = stock(1, 1, 15, 0, 8, 30, 0, 0, 0, 0, 31, 0, 0, 0, 0, 17, 2, 0, 9, 0);
        laid(late, 31, of(0, 1, 1, 3), 2000);
        laid(late, 32, of(0, 1, 1, 3), 2001);
        Loft fall = row(1, 1, 15, 0, 8, 30, 0, 0, 0, 0, 31, 0, 0, 0, 0, 16, 2, 0, 9, 0);
        Loft.due("its end", fall.x.fall(0, 0, 0), 2000);
        Loft other = row(1, 1, 15, 0, 8, 30, 0, 0, 0, 0, 31, 0, 0, 0, 0, 17, 2, 0, 9, 0);
        Loft.due("no end", other.x.fall(0, 0, 0), -1);
    }

    /** "BOARD k ..; NONE: there is none such, or ahead of any." */
    private static void numbersOfLaid() {
        Loft l = stock(1, 30, 0, 9, 0);
        for (int k = -1; k <= 4; k++) {
            Loft.due("ahead of any", l.x.laid(k), -1);
        }
        for (int n = 4; n >= 1; n--) {
            l.lay(n, 2);
            for (int k = -1; k <= 5; k++) {
                Loft.due("laid(" + k + ") of " + n, l.x.laid(k), k >= 0 && k < n ? 0 : -1);
            }
            for (int far : FAR) {
                Loft.due("laid(" + far + ")", l.x.laid(far), -1);
            }
        }
    }

    /** "of the latest lay() that was not NONE". */
    private static void latestLay() {
        Loft l = row(1, 30, 0, 9, 0, 1, 16, 0, 4, 0);
        laid(l, 0, of(1), 3);
        Loft.due("NONE", l.lay(0, 2), -1);
        Loft.due("NONE", l.lay(5, 2), -1);
        Loft.due("NONE", l.lay(1, 2, 2), -1);
        l.tape(1);
        Loft.due("NONE", l.x.lay(1), -1);
        l.worn(0, 2);
        l.x.fall(0, 0, 0);
        Loft.due("as it was", l.x.laid(0), 1);
        Loft.due("no more of them", l.x.laid(1), -1);
        laid(l, 0, of(0), 2);
    }

    // ---- WORN

    /** "NONE: not as told, no such RUN". */
    private static void numbersOfWorn() {
        Loft l = row(1, 30, 0, 9, 0);
        int[] no = {-1, 1, 2, 3, 4, Integer.MIN_VALUE, Integer.MAX_VALUE};
        for (int r : no) {
            Loft.due("worn(" + r + ")", l.worn(r, 2), -1);
            Loft.due("empty then", l.x.count(5), 0);
            Loft.due("worn(" + r + ") of none", l.worn(r), -1);
        }
        for (int r = 3; r >= 0; r--) {
            l.run(r, 0, 255, 255);
            Loft.due("worn(" + r + ")", l.worn(r, 2), 0);
            Loft.due("worn(" + r + ") a TICK later", l.worn(r, 3), -2);
        }
    }

    /** Of no heard TICKS each set explains all: the least set is the empty one. */
    private static void noneHeard() {
        Loft.due("a RUN that knocks", row(1, 30, 0, 9, 0).worn(0), 0);
        Loft.due("a RUN that does not", row(1, 30, 0, 0, 0).worn(0), 0);
        Loft.due("a ball that stays", row(1, 0, 0, 9, 0).worn(0), 0);
    }

    /** What was wished, laid and heard is nothing to the next call. */
    private static void behindOneAnother() {
        Loft l = stock(2, 16, 0, 4, 0, 2, 0, 0, 4, 0, 1, 30, 0, 9, 0);
        l.run(0, 0, 1, 255, 1, 255, 255);
        for (int i = 0; i < 3; i++) {
            laid(l, 0, of(2), 2);
            Loft.due("worn of none", l.worn(0), 0);
            Loft.due("worn of one", l.worn(0, 6), 1);
            laid(l, 0, of(1));
            laid(l, 0, of(0, 0), 4, 5);
            Loft.due("worn as it is", l.worn(0, 4, 5), 0);
            laid(l, 100, of(2), 2, 4000);
            Loft.due("none explains", l.worn(0, 3), -2);
        }
    }

    /** DROP 1 at SPEED 64 knocks with 1, at SPEED 63 not at all. */
    private static void knockOfOne() {
        laid(stock(2, 16, 0, 1, 0), 0, of(0), 4);
        laid(stock(1, 21, 0, 1, 0), 100, of(0), 3);
        laid(stock(2, 16, 0, 1, 0), 100, of(0));
        laid(stock(1, 21, 0, 1, 0), 0, of(0));
        Loft.due("64", row(2, 16, 0, 1, 0).worn(0, 4), 0);
        Loft.due("63", row(1, 21, 0, 1, 0).worn(0, 3), -2);
    }

    /**
     * It comes with SPEED 1 to part 0 of BOARD 2 in TICK 49, in TICK 113 to BOARD 3: 31 and 61 parts in 2 TICKS, and
     * a KNOCK with 8 in TICK 115.
     */
    private static void speedOfOne() {
        Loft l = row(1, 1, 15, 0, 8, 1, 0, 0, 0, 8, 1, 0, 0, 0, 0, 1, 30, 0, 9, 0);
        l.x.fall(0, 0, 0);
        l.knocked(0, 115, 3, 8);
        Loft.due("heard", l.worn(0, 115), 0);
        Loft.due("a TICK ahead", l.worn(0, 114), -2);
        Loft.due("a TICK later", l.worn(0, 116), -2);
        laid(l, 0, of(0, 1, 1, 3), 115);
    }

    /**
     * "EXPLAINS them, if each is the TICK of a KNOCK": PLACE 0 knocks in TICK 4, PLACE 1 in TICK 5, or in TICK 6, if
     * the step of PLACE 0 is worn.
     */
    private static void eachIsAKnock() {
        Loft l = row(2, 16, 0, 4, 0, 2, 0, 0, 4, 0);
        l.x.fall(0, 0, 0);
        l.knocked(0, 4, 0, 4);
        l.knocked(1, 5, 1, 4);
        int[] one = {-2, -2, -2, -2, 0, 0, 1, -2};
        for (int t = 0; t < 8; t++) {
            Loft.due("heard in " + t, l.worn(0, t), one[t]);
        }
        Loft.due("4, 5", l.worn(0, 4, 5), 0);
        Loft.due("4, 6", l.worn(0, 4, 6), 1);
        Loft.due("5, 6", l.worn(0, 5, 6), -2);
        Loft.due("4, 5, 6", l.worn(0, 4, 5, 6), -2);
        Loft.due("3, 4", l.worn(0, 3, 4), -2);
        Loft.due("4, 7", l.worn(0, 4, 7), -2);
        Loft.due("0, 4, 5", l.worn(0, 0, 4, 5), -2);
        Loft.due("4, 5, 65535", l.worn(0, 4, 5, 65535), -2);
    }

    /**
     * Less by 1 is DROP 0, which does not knock: of PLACES of DROP 1 or 2, left with SPEED 64 in TICK 4. PLACE 1 is
     * left in TICK 5, if it comes there at part 96 - 32 or more.
     */
    private static void noKnockWhenWorn() {
        Loft one = row(2, 16, 0, 1, 0);
        Loft.due("the KNOCK of DROP 1", one.worn(0, 4), 0);
        Loft two = row(2, 16, 0, 2, 0);
        Loft.due("the KNOCK of DROP 2", two.worn(0, 4), 0);
        int[] seen = new int[3];
        for (int length = 1; length <= 9; length++) {
            for (int slope = 1; slope <= 9; slope++) {
                Loft l = row(2, 16, 0, 1, 8, length, slope, 0, 9, 0);
                Loft w = row(2, 16, 0, 0, 8, length, slope, 0, 9, 0);
                int asItIs = l.x.fall(0, 0, 0);
                int worn = w.x.fall(0, 0, 0);
                Loft.due("as it is", l.worn(0, 4, asItIs), 0);
                Loft.due("worn", l.worn(0, worn), worn == asItIs ? 0 : 1);
                Loft.due("worn, its KNOCK heard", l.worn(0, 4, worn), worn == asItIs ? 0 : -2);
                seen[worn == asItIs ? 0 : 1]++;
            }
        }
        Loft.due("both were seen", seen[0] > 0 && seen[1] > 0, true);
    }

    /**
     * "(0 at least)": a step of DROP 0 is as it was, and is of no set. It comes with SPEED 32 to part 32 in TICK 4: to
     * the end of LENGTH 3 it takes 5 TICKS, from part 28 it would take 6.
     */
    private static void dropOfNothing() {
        Loft flat = row(2, 16, 0, 0, 8, 3, 0, 0, 9, 0);
        Loft.due("in TICK 9", flat.worn(0, 9), 0);
        Loft.due("in TICK 10", flat.worn(0, 10), -2);
        for (int length = 1; length <= 9; length++) {
            Loft l = row(2, 16, 0, 0, 0, length, 3, 0, 9, 0);
            int end = l.x.fall(0, 0, 0);
            Loft.due("as it is", l.worn(0, end), 0);
            Loft.due("a TICK later", l.worn(0, end + 1), -2);
            Loft.due("a TICK ahead", l.worn(0, end - 1), -2);
        }
    }

    /** "the fewest steps": PLACE 1 alone, and not PLACES 0 and 2; all four; three. */
    private static void fewestSteps() {
        Loft one = row(1, 15, 4, 3, 0, 6, 23, 2, 8, 5, 6, 14, 4, 5, 7, 1, 21, 0, 1, 5);
        Loft.due("one", one.worn(0, 11), 2);
        Loft three = row(1, 22, 6, 9, 4, 4, 23, 5, 4, 4, 4, 11, 4, 5, 8, 3, 3, 6, 7, 5);
        Loft.due("three", three.worn(0, 12), 7);
        Loft four = row(6, 7, 5, 6, 8, 2, 10, 6, 4, 0, 3, 4, 2, 8, 3, 5, 11, 0, 4, 0, 7, 6, 3, 5, 2);
        Loft.due("four", four.worn(0, 27), 15);
        Loft only = row(4, 5, 3, 1, 1, 8, 11, 0, 6, 0, 6, 6, 0, 2, 6, 5, 4, 1, 2, 8, 5, 3, 6, 2, 3);
        Loft.due("four, and no other set", only.worn(0, 31), 15);
    }

    /** "of like ones the first (by the least PLACE in which they are unlike, the one that has it)". */
    private static void likeSets() {
        Loft outer = row(4, 9, 3, 6, 7, 4, 6, 0, 7, 4, 2, 6, 2, 9, 0, 2, 14, 0, 3, 0, 8, 11, 2, 1, 6);
        Loft.due("0 and 3, not 1 and 2", outer.worn(0, 21), 9);
        Loft two = row(6, 27, 4, 6, 5, 4, 17, 4, 2, 5, 4, 30, 0, 3, 4, 5, 6, 5, 2, 1);
        Loft.due("0 and 2, not 1 and 2", two.worn(0, 13), 5);
        Loft near = row(3, 28, 5, 7, 1, 5, 5, 6, 9, 7, 2, 13, 4, 1, 4, 3, 9, 2, 7, 4);
        Loft.due("0 and 1, not 0 and 2", near.worn(0, 12), 3);
        Loft one = row(2, 15, 0, 4, 0, 1, 2, 3, 4, 8, 6, 12, 1, 3, 3);
        Loft.due("0, not 1", one.worn(0, 11), 1);
    }

    /** A jumped PLACE has no KNOCK: as it is the ball comes to part 64 of PLACE 1, worn to part 57. */
    private static void wornJumps() {
        Loft l = row(1, 27, 0, 7, 0, 1, 0, 0, 9, 0);
        Loft.due("JUMPED as it is", l.x.fall(0, 0, 2), 1);
        Loft.due("the KNOCK of PLACE 0", l.worn(0, 2), 0);
        Loft.due("a KNOCK of PLACE 1", l.worn(0, 3), 1);
        Loft.due("both", l.worn(0, 2, 3), 1);
        Loft stays = row(1, 30, 0, 5, 0, 1, 0, 0, 9, 0);
        Loft.due("JUMPED as it is", stays.x.fall(0, 0, 2), 0);
        Loft.due("both as it is", stays.worn(0, 2, 3), 0);
    }

    /** "its GATES all at 0": the way of the GATE turned does not count. */
    private static void gatesAtNothing() {
        Loft l = stock(1, 30, 0, 9, 0, 4, 0, 0, 9, 0);
        l.run(0, 0, 255, 1, 1, 255, 255);
        Loft.due("end with GATE 1", l.x.fall(0, 1, 0), 5);
        Loft.due("the KNOCK of PLACE 0", l.worn(0, 2), 0);
        Loft.due("the KNOCK of PLACE 1", l.worn(0, 5), -2);
        l.run(0, 0, 1, 255, 1, 255, 255);
        Loft.due("the KNOCK of PLACE 1 now", l.worn(0, 5), 0);
        l.x.machine(4, 0, 0, 0);
        l.score("at 0 use 0;");
        l.x.night();
        Loft.due("GATES of the night", l.worn(0, 5), 0);
    }

    private static Loft slowly(int places, int rough, int last) {
        int[] numbers = new int[5 * places];
        for (int p = 0; p < places; p++) {
            numbers[5 * p] = p == places - 1 ? last : 40;
            numbers[5 * p + 1] = 1;
            numbers[5 * p + 2] = rough;
            numbers[5 * p + 3] = p == places - 1 ? 9 : 0;
        }
        return row(numbers);
    }

    /** The FALL is followed up to TICK 2000. */
    private static void wornUpToTick2000() {
        Loft.due("a KNOCK in TICK 2000", slowly(12, 4, 27).worn(0, 2000), 0);
        Loft.due("a KNOCK in TICK 2001", slowly(10, 5, 14).worn(0, 2001), -2);
        Loft.due("none in TICK 2000", slowly(10, 5, 14).worn(0, 2000), -2);
        Loft.due("a KNOCK in TICK 1995", slowly(10, 5, 13).worn(0, 1995), 0);
    }

    /** The steps are worn in thought only: the RUN and the stock are as they were. */
    private static void runStays() {
        Loft l = row(2, 16, 0, 4, 0, 2, 0, 0, 4, 0);
        Loft.due("worn", l.worn(0, 4, 6), 1);
        Loft.due("worn again", l.worn(0, 4, 6), 1);
        Loft.due("its FALL", l.x.fall(0, 0, 0), 5);
        l.knocked(0, 4, 0, 4);
        laid(l, 0, of(0, 0), 4, 5);
        Loft.due("RUNS", l.x.count(1), 1);
        Loft.due("BOARDS", l.x.count(0), 2);
    }
}
