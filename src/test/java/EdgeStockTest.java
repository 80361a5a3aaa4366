/** The boundary cases of promises 1 to 5 and 23, and of the parts on the tape, BOARDS and RUNS. */
final class EdgeStockTest {
    /** Numbers that come back to small ones when they are cut to fewer bits, and the ends of all. */
    private static final int[] FAR = {Integer.MIN_VALUE, Integer.MIN_VALUE + 1, -65536, -256, 256, 65536, 1 << 24,
        Integer.MAX_VALUE - 1, Integer.MAX_VALUE};

    public static void main(String[] args) {
        newObject();
        twoObjects();
        feed();
        feedOrder();
        end();
        boardNumbers();
        boardStock();
        runLengths();
        runNumbers();
        runBoards();
        runWays();
        runStays();
        emptyThen();
        countOfEach();
        throwsChangeNothing();
        lastCall();
        Loft.close();
    }

    /** "No BOARDS, RUNS, MACHINES, MEN, SCORE; an empty tape." */
    private static void newObject() {
        Loft l = new Loft();
        for (int what = 0; what <= 5; what++) {
            Loft.due("new count(" + what + ")", l.x.count(what), 0);
        }
        for (int what = 0; what <= 4; what++) {
            Loft.due("new told(" + what + ")", l.x.told(what), 0);
        }
        Loft.due("new fault", l.x.fault(), 0);
        Loft.due("new end(0)", l.x.end(0), true);
        Loft.due("new end(1)", l.x.end(1), false);
        Loft.due("new fall", l.x.fall(0, 0, 0), -2);
        Loft.due("new knock", l.knock(0, 0), Loft.THROWN);
        Loft.due("new event", l.event(0, 0), Loft.THROWN);
        Loft.due("new sound", l.sound(0, 0), Loft.THROWN);
        Loft.due("new who", l.x.who(0), -1);
        Loft.due("new made", l.x.made(), 0);
        Loft.due("new balls", l.x.balls(0, 0), -1);
        Loft.due("new fillings", l.x.fillings(0), -1);
        Loft.due("new laid", l.x.laid(0), -1);
        Loft.due("new lay", l.x.lay(1), -1);
        Loft.due("new worn", l.x.worn(0), -1);
        Loft.due("new run", l.x.run(0), -1);
        Loft.due("new HEAD", l.x.machine(0, 0, 0, 0), -4);
        Loft.due("new GATE", l.x.machine(4, 0, 0, 0), -4);
        Loft.due("new night", l.x.night(), 0);
        Loft.due("new score", l.x.score(), 0);
        Loft.due("behind an empty score", l.x.fault(), 0);
        Loft.due("NONE", StormLoft.NONE, -1);
    }

    private static void twoObjects() {
        Loft one = new Loft();
        one.x.board(1, 8, 0, 0, 0);
        one.run(0, 0, 255, 255);
        one.x.man(3);
        one.x.machine(3, 0, 0, 0);
        one.score("at 0 use 0;");
        one.x.feed(1, 2, 3, 4, 5);
        Loft other = new Loft();
        for (int what = 0; what <= 5; what++) {
            Loft.due("count(" + what + ") of another object", other.x.count(what), 0);
        }
    }

    /** "how many it has; NONE, and none come, if it would have more than 640." */
    private static void feed() {
        for (int free = 0; free <= 40; free++) {
            Loft l = new Loft();
            for (int i = 0; i < 32; i++) {
                Loft.due("feed", l.x.feed(0x41414141, 0, 0, 0, 0x41414141), 20 * (i + 1));
            }
            Loft.due("end", l.x.end(640 - free), true);
            Loft.due("feed with room for " + free, l.x.feed(0, 0, 0, 0, 0), free < 20 ? -1 : 660 - free);
            Loft.due("none come, or twenty", l.x.count(5), free < 20 ? 640 - free : 660 - free);
        }
        Loft l = new Loft();
        for (int i = 0; i < 32; i++) {
            l.x.feed(0x40404040, 0x40404040, 0x40404040, 0x40404040, 0x40404040);
        }
        l.x.feed(0x20202020, 0x20202020, 0x20202020, 0x20202020, 0x20202020);
        l.x.end(1);
        Loft.due("the bytes stay", l.x.score(), -1);
    }

    /** "Twenty bytes come behind the tape, of each number the highest first", each byte at its own place. */
    private static void feedOrder() {
        for (int at = 0; at < 20; at++) {
            for (int value = 0; value < 256; value += 5) {
                int[] n = {0x20202020, 0x20202020, 0x20202020, 0x20202020, 0x20202020};
                int shift = 24 - 8 * (at % 4);
                n[at / 4] = n[at / 4] & ~(255 << shift) | value << shift;
                Loft l = new Loft();
                l.x.feed(0x0a0a0a0a, 0x0a0a0a0a, 0x0a0a0a0a, 0x0a0a0a0a, 0x0a0a0a0a);
                l.x.feed(n[0], n[1], n[2], n[3], n[4]);
                boolean blank = value == 10;
                Loft.due("byte " + value + " at " + at, l.x.score(), blank ? 0 : -1 - 20 - at);
            }
        }
    }

    /** "The tape has its first n bytes alone: true; false, if it has not so many, or n is below 0." */
    private static void end() {
        Loft l = new Loft();
        for (int size = 20; size >= 1; size--) {
            l.tape(Loft.bytesOf("storm a end storm a "));
            Loft.due("end(" + size + ")", l.x.end(size), true);
            Loft.due("one more", l.x.end(size + 1), false);
            Loft.due("as it was", l.x.count(5), size);
            Loft.due("as many", l.x.end(size), true);
            Loft.due("end(-1)", l.x.end(-1), false);
            for (int far : FAR) {
                Loft.due("end(" + far + ")", l.x.end(far), false);
            }
            Loft.due("still as it was", l.x.count(5), size);
        }
        Loft.due("end(0)", l.x.end(0), true);
        Loft.due("empty", l.x.count(5), 0);
        l.tape(Loft.bytesOf("storm a end;;;"));
        Loft.due("the first 11", l.x.end(11), true);
        Loft.due("their SCORE", l.x.score(), 0);
    }

    /** "LENGTH 1 to 40, SLOPE -9 to 30, ROUGH 0 to 15, DROP 0 to 9 and TURN 0 to 8". */
    private static void boardNumbers() {
        int[] least = {1, -9, 0, 0, 0};
        int[] most = {40, 30, 15, 9, 8};
        for (int k = 0; k < 5; k++) {
            for (int n = least[k] - 3; n <= most[k] + 3; n++) {
                Loft l = new Loft();
                int[] b = {5, 5, 5, 5, 5};
                b[k] = n;
                boolean told = n >= least[k] && n <= most[k];
                Loft.due("number " + k + " is " + n, l.x.board(b[0], b[1], b[2], b[3], b[4]), told ? 0 : -1);
                Loft.due("BOARDS then", l.x.count(0), told ? 1 : 0);
            }
            Loft l = new Loft();
            for (int far : FAR) {
                int[] b = {5, 5, 5, 5, 5};
                b[k] += far;
                Loft.due("number " + k + " is " + b[k], l.x.board(b[0], b[1], b[2], b[3], b[4]), -1);
            }
            Loft.due("no BOARDS", l.x.count(0), 0);
        }
    }

    /** "BOARDS 0 .. 15": "NONE: there are 16". */
    private static void boardStock() {
        Loft l = new Loft();
        for (int i = 0; i < 16; i++) {
            Loft.due("not as told", l.x.board(0, 0, 0, 0, 0), -1);
            Loft.due("board " + i, l.x.board(1, 30, 0, i % 10, 0), i);
            Loft.due("BOARDS", l.x.count(0), i + 1);
        }
        Loft.due("a 17th", l.x.board(1, 30, 0, 0, 0), -1);
        Loft.due("an 18th", l.x.board(1, 30, 0, 9, 0), -1);
        Loft.due("BOARDS", l.x.count(0), 16);
        l.run(0, 15, 255, 255);
        l.x.fall(0, 0, 0);
        l.knocked(0, 2, 0, 4);
    }

    private static int[] places(int n) {
        int[] b = new int[3 * n];
        for (int p = 0; p < n; p++) {
            b[3 * p + 1] = 255;
            b[3 * p + 2] = 255;
        }
        return b;
    }

    /** "how many PLACES; NONE ..: not 3 to 36 bytes by threes". */
    private static void runLengths() {
        for (int size = 0; size <= 60; size++) {
            Loft l = new Loft();
            l.x.board(1, 8, 0, 0, 0);
            l.tape(java.util.Arrays.copyOf(places(20), size));
            boolean told = size % 3 == 0 && size >= 3 && size <= 36;
            Loft.due("run of " + size + " bytes", l.x.run(0), told ? size / 3 : -1);
            Loft.due("RUNS", l.x.count(1), told ? 1 : 0);
            Loft.due("empty then", l.x.count(5), 0);
        }
        Loft l = new Loft();
        l.x.board(1, 8, 0, 0, 0);
        l.tape(java.util.Arrays.copyOf(places(213), 639));
        Loft.due("run of 639 bytes", l.x.run(0), -1);
    }

    /** "RUNS 0 .. 3": "NONE ..: no such RUN". */
    private static void runNumbers() {
        Loft l = new Loft();
        l.x.board(1, 8, 0, 0, 0);
        for (int far : FAR) {
            Loft.due("run(" + far + ")", l.run(far, 0, 255, 255), -1);
            Loft.due("empty then", l.x.count(5), 0);
        }
        Loft.due("run(-1)", l.run(-1, 0, 255, 255), -1);
        Loft.due("run(4)", l.run(4, 0, 255, 255), -1);
        Loft.due("no RUNS", l.x.count(1), 0);
        for (int r = 3; r >= 0; r--) {
            Loft.due("run(" + r + ")", l.run(r, 0, 255, 255), 1);
            Loft.due("RUNS", l.x.count(1), 4 - r);
        }
        Loft.due("anew", l.run(0, 0, 1, 1, 0, 255, 255), 2);
        Loft.due("as many RUNS", l.x.count(1), 4);
    }

    /** "no such BOARD", at each size of the stock. */
    private static void runBoards() {
        Loft l = new Loft();
        for (int size = 0; size <= 16; size++) {
            Loft.due("the next BOARD", l.run(0, size, 255, 255), -1);
            Loft.due("the next BOARD on PLACE 1", l.run(1, 0, 1, 1, size, 255, 255), -1);
            Loft.due("BOARD 255", l.run(0, 255, 255, 255), -1);
            if (size > 0) {
                Loft.due("the last BOARD", l.run(0, size - 1, 255, 255), 1);
                Loft.due("the last BOARD on PLACE 1", l.run(1, 0, 1, 1, size - 1, 255, 255), 2);
            }
            l.x.board(1, 8, 0, 0, 0);
        }
    }

    /** "one later PLACE or THE PIT, and another one (or the same) for its GATE turned (255: THE PIT)". */
    private static void runWays() {
        for (int n = 1; n <= 12; n++) {
            for (int p = 0; p < n; p++) {
                for (int way = 1; way <= 2; way++) {
                    runWaysOf(n, p, way);
                }
            }
        }
    }

    private static void runWaysOf(int n, int p, int way) {
        Loft l = new Loft();
        l.x.board(1, 8, 0, 0, 0);
        for (int to = 0; to <= 255; to = to == n + 2 ? 250 : to + 1) {
            int[] b = places(n);
            b[3 * p + way] = to;
            boolean told = to == 255 || to > p && to < n;
            Loft.due("way " + way + " from " + p + " of " + n + " to " + to, l.run(0, b), told ? n : -1);
        }
    }

    /** "NONE, and it stays". */
    private static void runStays() {
        Loft l = new Loft();
        l.x.board(1, 8, 0, 0, 0);
        l.run(2, 0, 1, 1, 0, 255, 255);
        int[][] bad = {{}, {0, 255}, {0, 255, 255, 0}, {1, 255, 255}, {0, 0, 255}, {0, 255, 0}, {0, 1, 255},
            {0, 2, 2, 0, 255, 255}, {0, 255, 255, 0, 1, 255}, {0, 255, 255, 0, 255, 0}, places(13)};
        for (int[] b : bad) {
            Loft.due("not as told", l.run(2, b), -1);
            Loft.due("it stays", l.x.fall(2, 0, 0), 6);
            Loft.due("RUNS", l.x.count(1), 1);
        }
        Loft.due("as told", l.run(2, 0, 255, 255), 1);
        Loft.due("it is another", l.x.fall(2, 0, 0), 4);
    }

    /** "the tape's bytes (empty then, with a FAULT, too, here and below)". */
    private static void emptyThen() {
        for (int board = 0; board < 2; board++) {
            for (int n = -1; n <= 5; n++) {
                for (int size = 0; size <= 24; size++) {
                    Loft l = new Loft();
                    if (board > 0) {
                        l.x.board(1, 8, 0, 0, 0);
                    }
                    emptyBehind(l, n, size);
                }
            }
        }
    }

    private static void emptyBehind(Loft l, int n, int size) {
        l.tape(new int[size]);
        l.x.run(n);
        Loft.due("behind run(" + n + ")", l.x.count(5), 0);
        l.tape(new int[size]);
        l.x.score();
        Loft.due("behind score", l.x.count(5), 0);
        l.tape(new int[size]);
        l.x.lay(n);
        Loft.due("behind lay(" + n + ")", l.x.count(5), 0);
        l.tape(new int[size]);
        l.x.worn(n);
        Loft.due("behind worn(" + n + ")", l.x.count(5), 0);
    }

    /** "0 BOARDS, 1 RUNS, 2 MACHINES, 3 MEN, 4 EVENTS, 5 bytes of the tape. NONE for another what." */
    private static void countOfEach() {
        Loft l = new Loft();
        counts(l, 0, 0, 0, 0, 0, 0);
        l.x.board(1, 8, 0, 0, 0);
        counts(l, 1, 0, 0, 0, 0, 0);
        l.run(3, 0, 255, 255);
        counts(l, 1, 1, 0, 0, 0, 0);
        l.x.machine(3, 0, 0, 0);
        counts(l, 1, 1, 1, 0, 0, 0);
        l.x.man(0);
        counts(l, 1, 1, 1, 1, 0, 0);
        l.score("at 0 use 0;");
        counts(l, 1, 1, 1, 1, 1, 0);
        l.x.feed(0, 0, 0, 0, 0);
        counts(l, 1, 1, 1, 1, 1, 20);
        l.score("");
        counts(l, 1, 1, 1, 1, 0, 0);
    }

    private static void counts(Loft l, int... want) {
        for (int what = 0; what <= 5; what++) {
            Loft.due("count(" + what + ")", l.x.count(what), want[what]);
        }
        Loft.due("count(-1)", l.x.count(-1), -1);
        Loft.due("count(6)", l.x.count(6), -1);
        for (int far : FAR) {
            Loft.due("count(" + far + ")", l.x.count(far), -1);
        }
    }

    /** "A call that throws changes nothing." */
    private static void throwsChangeNothing() {
        Loft l = new Loft();
        l.x.board(1, 30, 0, 9, 0);
        l.run(0, 0, 255, 255);
        l.x.machine(0, 0, 0, 0);
        l.x.man(0);
        l.score("at 0 use 0;");
        l.x.night();
        l.x.made();
        l.x.fall(0, 0, 0);
        l.lay(1, 2);
        l.score("at 0 use 0; at");
        l.x.feed(1, 2, 3, 4, 5);
        for (int i = 0; i < 20; i++) {
            int k = i % 2 == 0 ? -1 - i : 2 + i;
            Loft.due("knock", l.knock(k, 0), Loft.THROWN);
            Loft.due("event", l.event(k, 0), Loft.THROWN);
            Loft.due("sound", l.sound(k, 0), Loft.THROWN);
            Loft.due("knock's what", l.knock(0, k > 0 ? k + 1 : k), Loft.THROWN);
            Loft.due("event's what", l.event(0, k > 0 ? k + 3 : k), Loft.THROWN);
            Loft.due("sound's what", l.sound(0, k > 0 ? k + 1 : k), Loft.THROWN);
        }
        counts(l, 1, 1, 1, 1, 1, 20);
        l.knocked(0, 2, 0, 8);
        l.heard(1, 2, 100, 8);
        Loft.due("fault", l.x.fault(), 1);
        Loft.due("who", l.x.who(0), 0);
        Loft.due("laid", l.x.laid(0), 0);
        Loft.due("told", l.x.told(4), 9);
        Loft.due("event", l.event(0, 4), 1);
    }

    /** "An object is used for at most 512 calls after it has been made": the 512th answers, too. */
    private static void lastCall() {
        Loft l = new Loft();
        for (int call = 1; call <= 511; call++) {
            int size = (call - 1) % 33 < 32 ? 20 * ((call - 1) % 33 + 1) : 0;
            if (size > 0) {
                Loft.due("call " + call, l.x.feed(call, 0, 0, 0, 0), size);
            } else {
                Loft.due("call " + call, l.x.end(0), true);
            }
        }
        Loft.due("call 512", l.x.count(5), 20 * (511 % 33));
    }
}
