/** The boundary cases of promises 13 to 15: THE NIGHT, its SOUNDS and BUMPS, and what is told of it. */
final class EdgeNightTest {
    private static final int[] FAR = {Integer.MIN_VALUE, -65536, -2, -1, 65536, Integer.MAX_VALUE};

    public static void main(String[] args) {
        emptyNights();
        firstTick();
        ballsThenEvents();
        lesserNumbersFirst();
        turnedInThatTick();
        gatesAtFirst();
        manyBallsOfOneHead();
        whereFrom();
        silentKnocks();
        lastTick();
        threeHundredSounds();
        bumpSounds();
        bumpOfSpeedsBehind();
        levelOnes();
        leavingOnes();
        otherRuns();
        ballsAtRest();
        pairs();
        theyGoOn();
        numbersOfTold();
        numbersOfSound();
        latestNight();
        throughAnew();
        noBallsOfOtherNights();
        otherKindsTurnNothing();
        Loft.close();
    }

    private static void told(Loft l, int... want) {
        for (int what = 0; what < 5; what++) {
            Loft.due("told(" + what + ")", l.x.told(what), want[what]);
        }
    }

    private static void emptyNights() {
        Loft l = new Loft();
        told(l, 0, 0, 0, 0, 0);
        Loft.due("ahead of any", l.sound(0, 0), Loft.THROWN);
        Loft.due("without SCORE", l.x.night(), 0);
        told(l, 0, 0, 0, 0, 0);
        l.x.board(1, 30, 0, 9, 0);
        l.run(0, 0, 255, 255);
        l.x.machine(0, 0, 0, 0);
        l.score("");
        Loft.due("without EVENTS", l.x.night(), 0);
        told(l, 0, 0, 0, 0, 0);
        l.score("storm a at 0 use 0; end");
        Loft.due("never played", l.x.night(), 0);
        Loft.due("no SOUND", l.sound(0, 0), Loft.THROWN);
    }

    /** "TICKS 0 to 4400": an EVENT in TICK 0; "BALLS are let go with SPEED 0 and go on from the next TICK". */
    private static void firstTick() {
        Loft l = new Loft();
        l.x.board(1, 30, 0, 9, 0);
        l.run(0, 0, 255, 255);
        l.x.machine(0, 0, 0, 0);
        for (int t = 0; t <= 2000; t += 500) {
            l.score("at " + t + " use 0;");
            Loft.due("night", l.x.night(), 2);
            l.heard(0, t, 0, 1);
            l.heard(1, t + 2, 100, 8);
            told(l, 1, 1, 0, 2, 9);
        }
    }

    /** "in each TICK first BALLS go on (..; then BUMPS, by pairs), then EVENTS", and SOUNDS in that order. */
    private static void ballsThenEvents() {
        Loft l = meeting(1, 17, 40);
        l.x.machine(3, 0, 0, 0);
        l.score("at 0 use 0; at 1 use 0; at 2 use 1; at 2 use 2 with 20; at 3 use 2 with 30; at 7 use 2 with 70;");
        Loft.due("night", l.x.night(), 7);
        l.heard(0, 0, 0, 1);
        l.heard(1, 1, 0, 1);
        l.heard(2, 2, 1, 1);
        l.heard(3, 2, 2, 20);
        l.heard(4, 3, 2, 30);
        l.heard(5, 7, 901, 1);
        l.heard(6, 7, 2, 70);
    }

    /** Two BALLS knock in one TICK: the one let go first is heard first. */
    private static void lesserNumbersFirst() {
        Loft l = new Loft();
        l.x.board(1, 30, 0, 9, 0);
        l.x.board(1, 30, 0, 4, 0);
        l.run(0, 0, 255, 255);
        l.run(1, 1, 255, 255);
        l.x.machine(0, 0, 0, 0);
        l.x.machine(0, 0, 1, 0);
        for (int first = 0; first <= 1; first++) {
            l.score("at 4 use " + first + "; at 4 use " + (1 - first) + ";");
            Loft.due("night", l.x.night(), 4);
            l.heard(0, 4, first, 1);
            l.heard(1, 4, 1 - first, 1);
            l.heard(2, 6, 100 + 100 * first, first == 0 ? 8 : 3);
            l.heard(3, 6, 200 - 100 * first, first == 0 ? 3 : 8);
        }
        l.score("at 4 use 0 with 0; at 4 use 0 with 9999;");
        Loft.due("of one HEAD", l.x.night(), 4);
        l.heard(3, 6, 100, 8);
    }

    /** A ball leaves PLACE 0 in TICK 2 behind its HEAD: a GATE turned in that TICK is turned too late. */
    private static void turnedInThatTick() {
        Loft l = new Loft();
        l.x.board(1, 30, 0, 0, 0);
        l.x.board(4, 0, 0, 9, 0);
        l.run(0, 0, 1, 255, 1, 255, 255);
        l.x.machine(0, 0, 0, 0);
        l.x.machine(4, 0, 0, 0);
        int[] knocks = {0, 0, 1, 1};
        for (int t = 10; t <= 13; t++) {
            l.score("at " + t + " use 1; at 10 use 0;");
            l.x.night();
            Loft.due("turned in TICK " + t, l.x.told(3), 2 + knocks[t - 10]);
        }
        l.score("at 11 use 1; at 11 use 1 with 0; at 10 use 0;");
        l.x.night();
        Loft.due("turned and back", l.x.told(3), 4);
        l.score("at 11 use 1 with 0; at 11 use 1 with 1; at 10 use 0;");
        l.x.night();
        Loft.due("back and turned", l.x.told(3), 3);
        l.score("at 9 use 1; at 9 use 1; at 10 use 0;");
        l.x.night();
        Loft.due("turned when it is turned", l.x.told(3), 3);
        l.score("at 9 use 1 with 0; at 10 use 0;");
        l.x.night();
        Loft.due("back when it is back", l.x.told(3), 3);
        l.score("at 9 use 1; at 10 use 1 with 0; at 11 use 0;");
        l.x.night();
        Loft.due("back in time", l.x.told(3), 4);
    }

    /** "GATES stand as they did at first (0)" in each night, of each RUN for itself. */
    private static void gatesAtFirst() {
        Loft l = new Loft();
        l.x.board(1, 30, 0, 0, 0);
        l.x.board(4, 0, 0, 9, 0);
        for (int r = 0; r < 4; r++) {
            l.run(r, 0, 1, 255, 1, 255, 255);
            l.x.machine(0, 0, r, 0);
            l.x.machine(4, 0, r, 0);
        }
        for (int r = 0; r < 4; r++) {
            l.score("at 0 use " + (2 * r + 1) + "; at 1 use 0; at 2 use 2; at 3 use 4; at 4 use 6;");
            Loft.due("a GATE of RUN " + r, l.x.night(), 5 + 3);
            Loft.due("KNOCKS of RUN " + r, l.x.fall(r, 0, 1), 1);
        }
        l.score("at 1 use 0; at 2 use 2; at 3 use 4; at 4 use 6;");
        Loft.due("as at first", l.x.night(), 4 + 4);
    }

    private static void manyBallsOfOneHead() {
        for (int n = 0; n <= 24; n++) {
            Loft l = new Loft();
            l.x.board(1, 30, 0, 9, 0);
            l.run(2, 0, 255, 255);
            l.x.machine(0, 0, 2, 0);
            l.score("at 3 use 0;".repeat(n));
            Loft.due("night of " + n, l.x.night(), 2 * n);
            told(l, n, n, 0, 2 * n, 9 * n);
            if (n > 0) {
                l.heard(n, 5, 300, 8);
                l.heard(2 * n - 1, 5, 300, 8);
            }
        }
    }

    /** "a KNOCK 100 times the RUN and its PLACE and 100": PLACES 0 and 11, RUNS 0 and 3; MACHINES 0 and 11. */
    private static void whereFrom() {
        Loft l = new Loft();
        l.x.board(1, 30, 15, 3, 8);
        int[] run = new int[36];
        for (int p = 0; p < 12; p++) {
            run[3 * p + 1] = p == 11 ? 255 : p + 1;
            run[3 * p + 2] = 255;
        }
        for (int r = 0; r < 4; r++) {
            l.run(r, run);
            l.x.machine(0, 0, r, 0);
        }
        for (int m = 4; m < 12; m++) {
            l.x.machine(3, 0, 0, 0);
        }
        for (int r = 0; r < 4; r++) {
            l.score("at 0 use " + r + "; at 2000 use 11 with 99;");
            Loft.due("night", l.x.night(), 14);
            l.x.fall(r, 0, 0);
            for (int p = 0; p < 12; p++) {
                l.heard(p + 1, l.knock(p, 0), 100 * r + p + 100, l.knock(p, 2));
            }
            l.heard(0, 0, r, 1);
            l.heard(13, 2000, 11, 99);
        }
    }

    /** "no KNOCK, if that is 0": DROP 1 at SPEED 63 is silent, at SPEED 64 it is heard. */
    private static void silentKnocks() {
        Loft l = new Loft();
        l.x.board(1, 21, 0, 1, 0);
        l.x.board(2, 16, 0, 1, 0);
        l.run(0, 0, 255, 255);
        l.run(1, 1, 255, 255);
        l.x.machine(0, 0, 0, 0);
        l.x.machine(0, 0, 1, 0);
        l.score("at 0 use 0;");
        Loft.due("63", l.x.night(), 1);
        told(l, 1, 1, 0, 1, 1);
        l.score("at 0 use 1;");
        Loft.due("64", l.x.night(), 2);
        told(l, 1, 1, 0, 2, 2);
        l.heard(1, 4, 200, 1);
    }

    /**
     * "TICKS 0 to 4400". With ROUGH 4 it is 15 * t - 105 parts in t TICKS: 5895 in 400 and 5880 in 399, 92 LENGTHS
     * being 5888. Let go in TICK 4000 the ball ends in TICK 4400, one of 401 TICKS does not.
     */
    private static void lastTick() {
        Loft l = new Loft();
        l.x.board(40, 1, 4, 0, 0);
        l.x.board(12, 1, 4, 9, 0);
        l.x.board(13, 1, 4, 9, 0);
        l.x.machine(3, 0, 0, 0);
        l.run(0, 0, 1, 1, 0, 2, 2, 1, 255, 255);
        l.x.machine(0, 0, 0, 0);
        Loft.due("its FALL", l.x.fall(0, 0, 0), 400);
        l.score("times 3 every 2000 at 0 use 1; end");
        l.x.night();
        told(l, 3, 3, 0, 6, 9);
        l.heard(5, 4400, 102, 2);
        l.run(0, 0, 1, 1, 0, 2, 2, 2, 255, 255);
        Loft.due("its FALL", l.x.fall(0, 0, 0), 404);
        l.x.night();
        told(l, 3, 2, 0, 5, 7);
        for (int at = 1995; at <= 1997; at++) {
            l.score("times 2 every 2000 at " + at + " use 1; end");
            l.x.night();
            boolean ends = at <= 1996;
            told(l, 2, ends ? 2 : 1, 0, ends ? 4 : 3, ends ? 6 : 4);
        }
        l.score("times 3 every 2000 at 0 use 0 with 5; end");
        Loft.due("an EVENT in TICK 4000", l.x.night(), 3);
        l.heard(2, 4000, 0, 5);
    }

    /** "SOUNDS, 300 at most (later ones are not kept)": 23 balls of 12 KNOCKS and what comes in TICK 2000. */
    private static void threeHundredSounds() {
        Loft l = new Loft();
        l.x.board(1, 30, 15, 3, 8);
        l.x.board(1, 30, 0, 9, 0);
        int[] run = new int[36];
        for (int p = 0; p < 12; p++) {
            run[3 * p + 1] = p == 11 ? 255 : p + 1;
            run[3 * p + 2] = 255;
        }
        l.run(0, run);
        l.run(1, 1, 255, 255);
        l.x.machine(0, 0, 0, 0);
        l.x.machine(0, 0, 1, 0);
        l.x.machine(3, 0, 0, 0);
        Loft.due("KNOCKS of one", l.x.fall(0, 0, 1), 12);
        int loud = 1;
        for (int k = 0; k < 12; k++) {
            loud += l.knock(k, 2);
        }
        String balls = "times 20 every 1 at 0 use 0; end times 3 every 1 at 0 use 0; end ";
        l.score(balls);
        Loft.due("299", l.x.night(), 299);
        told(l, 23, 23, 0, 299, 23 * loud);
        l.heard(298, l.knock(11, 0) + 19, 111, l.knock(11, 2));
        Loft.due("no SOUND 299", l.sound(299, 0), Loft.THROWN);
        l.score(balls + "at 2000 use 2 with 77;");
        Loft.due("300", l.x.night(), 300);
        told(l, 23, 23, 0, 300, 23 * loud + 77);
        l.heard(299, 2000, 2, 77);
        Loft.due("no SOUND 300", l.sound(300, 0), Loft.THROWN);
        l.score(balls + "at 2000 use 1;");
        Loft.due("301", l.x.night(), 300);
        told(l, 24, 24, 0, 301, 23 * loud + 9);
        l.heard(299, 2000, 1, 1);
        Loft.due("SOUND 300 is not kept", l.sound(300, 0), Loft.THROWN);
        l.score(balls + "at 2000 use 0;");
        Loft.due("312", l.x.night(), 300);
        told(l, 24, 24, 0, 312, 24 * loud);
        l.heard(299, 2000, 0, 1);
        Loft.due("SOUND 300 is not kept", l.sound(300, 0), Loft.THROWN);
        l.score("at 0 use 2 with 3;");
        Loft.due("1 anew", l.x.night(), 1);
        Loft.due("no SOUND 1", l.sound(1, 0), Loft.THROWN);
    }

    /**
     * RUN 1: from PLACE 0 a ball comes with SPEED 60 and part 26 to PLACE 1, or turned to PLACE 2, both of LENGTH 1,
     * and from there to PLACE 3, which is flat. MACHINE 0 is the HEAD, MACHINE 1 the GATE.
     */
    private static Loft meeting(int slowSlope, int fastSlope, int length) {
        Loft l = new Loft();
        l.x.board(1, 30, 0, 0, 0);
        l.x.board(1, slowSlope, 0, 0, 0);
        l.x.board(1, fastSlope, 0, 0, 0);
        l.x.board(length, 0, 0, 0, 0);
        l.run(1, 0, 1, 2, 1, 3, 3, 2, 3, 3, 3, 255, 255);
        l.x.machine(0, 0, 1, 0);
        l.x.machine(4, 0, 1, 0);
        return l;
    }

    /**
     * "a sound of the difference of their SPEEDS behind the TICK by 16, cut (none, if that is 0)". Ball 0 comes with
     * SPEED 61 to part 23 of PLACE 3 in TICK 3, ball 1 in TICK 4 with 76 to 38, or with 77 to 39. In TICK 7 they are
     * at 267 and 266, or 270: a BUMP with 16 by 16; in TICK 8 at 328 and 342: a BUMP with 15 by 16.
     */
    private static void bumpSounds() {
        Loft silent = meeting(1, 16, 40);
        silent.score("at 0 use 0; at 1 use 0; at 2 use 1;");
        Loft.due("15 by 16", silent.x.night(), 3);
        told(silent, 2, 2, 1, 3, 3);
        Loft heard = meeting(1, 17, 40);
        heard.score("at 0 use 0; at 1 use 0; at 2 use 1;");
        Loft.due("16 by 16", heard.x.night(), 4);
        told(heard, 2, 2, 1, 4, 4);
        heard.heard(3, 7, 901, 1);
    }

    /**
     * On PLACE 3 of SLOPE 5 and ROUGH 3 the SPEEDS are 66 and 82 ahead of TICK 7, 68 and 83 behind it: 15 by 16. Of
     * the one that comes from SLOPE 20 they are 66 and 83, 68 and 84: 16 by 16.
     */
    private static void bumpOfSpeedsBehind() {
        for (int slope = 18; slope <= 20; slope += 2) {
            Loft l = new Loft();
            l.x.board(1, 30, 0, 0, 0);
            l.x.board(1, 0, 0, 0, 0);
            l.x.board(1, slope, 0, 0, 0);
            l.x.board(40, 5, 3, 0, 0);
            l.run(0, 0, 1, 2, 1, 3, 3, 2, 3, 3, 3, 255, 255);
            l.x.machine(0, 0, 0, 0);
            l.x.machine(4, 0, 0, 0);
            l.score("at 0 use 0; at 1 use 0; at 2 use 1;");
            int sounds = slope == 18 ? 3 : 4;
            Loft.due("night", l.x.night(), sounds);
            told(l, 2, 2, 1, sounds, sounds);
            if (slope == 20) {
                l.heard(3, 7, 900, 1);
            }
        }
    }

    /**
     * "the one with the lesser part ahead of it having the greater one behind it". Ball 0 with SPEED 60 is at 262 of
     * PLACE 3 in TICK 7, ball 1 with 75 too: it was behind it then, and is ahead of it in TICK 8.
     */
    private static void levelOnes() {
        Loft l = meeting(0, 15, 40);
        l.score("at 0 use 0; at 1 use 0; at 2 use 1;");
        Loft.due("level in TICK 7", l.x.night(), 3);
        told(l, 2, 2, 0, 3, 3);
        l.score("at 0 use 0; at 2 use 0; at 3 use 1;");
        Loft.due("level in TICK 12", l.x.night(), 3);
        told(l, 2, 2, 0, 3, 3);
        Loft near = meeting(0, 16, 40);
        near.score("at 0 use 0; at 1 use 0; at 2 use 1;");
        Loft.due("just past it in TICK 7", near.x.night(), 4);
        near.heard(3, 7, 901, 1);
        near.score("at 0 use 0; at 0 use 0;");
        Loft.due("level all the way", near.x.night(), 2);
        told(near, 2, 2, 0, 2, 2);
    }

    /**
     * "Two BALLS that are on one PLACE ahead of a TICK and behind it". Ball 0 is at 406 of PLACE 3 in TICK 19 and 466
     * in TICK 20, ball 1 at 346 and 556: of LENGTH 9 both stay, of 8 ball 1 leaves, of 7 both leave, to PLACE 4 or
     * to THE PIT.
     */
    private static void leavingOnes() {
        for (int length = 7; length <= 9; length++) {
            for (int next = 4; next <= 255; next += 251) {
                Loft l = new Loft();
                l.x.board(1, 30, 0, 0, 0);
                l.x.board(10, 0, 0, 0, 0);
                l.x.board(10, 30, 0, 0, 0);
                l.x.board(length, 0, 0, 0, 0);
                l.x.board(40, 0, 0, 0, 0);
                l.run(1, 0, 1, 2, 1, 3, 3, 2, 3, 3, 3, next, next, 4, 255, 255);
                l.x.machine(0, 0, 1, 0);
                l.x.machine(4, 0, 1, 0);
                l.score("at 0 use 0; at 3 use 1; at 11 use 0;");
                int bumps = length == 9 ? 1 : 0;
                Loft.due("of LENGTH " + length, l.x.night(), 3 + bumps);
                told(l, 2, 2, bumps, 3 + bumps, 3 + 9 * bumps);
                if (bumps > 0) {
                    l.heard(3, 20, 901, 9);
                }
            }
        }
    }

    /** On one PLACE: of two RUNS the balls of like parts do not BUMP, though the faster one passes the slower one. */
    private static void otherRuns() {
        Loft l = new Loft();
        l.x.board(40, 1, 0, 0, 0);
        l.x.board(40, 30, 0, 0, 0);
        l.run(0, 0, 255, 255);
        l.run(3, 1, 255, 255);
        l.x.machine(0, 0, 0, 0);
        l.x.machine(0, 0, 3, 0);
        l.score("at 0 use 0; at 3 use 1;");
        Loft.due("night", l.x.night(), 2);
        told(l, 2, 2, 0, 2, 2);
        Loft one = new Loft();
        one.x.board(1, 30, 0, 0, 0);
        one.x.board(1, 0, 0, 0, 0);
        one.x.board(1, 16, 0, 0, 0);
        one.x.board(40, 0, 0, 0, 0);
        for (int r = 0; r < 4; r++) {
            one.run(r, 0, 1, 2, 1, 3, 3, 2, 3, 3, 3, 255, 255);
            one.x.machine(0, 0, r, 0);
            one.x.machine(4, 0, r, 0);
        }
        for (int r = 0; r < 4; r++) {
            int other = (r + 1) % 4;
            one.score("at 0 use " + 2 * r + "; at 1 use " + 2 * r + "; at 2 use " + (2 * r + 1) + ";");
            Loft.due("both of RUN " + r, one.x.night(), 4);
            one.heard(3, 7, 900 + r, 1);
            one.score("at 0 use " + 2 * r + "; at 1 use " + 2 * other + "; at 2 use " + (2 * other + 1) + ";");
            Loft.due("of two RUNS", one.x.night(), 3);
        }
    }

    /**
     * A ball at rest is on its PLACE ahead of a TICK and behind it: ball 0 rests at 133 of PLACE 3. Ball 1 is there
     * at 51 in TICK 503, at 131 in TICK 504 and, with SPEED 71, at 202 in TICK 505. From SLOPE 30 it would be level.
     */
    private static void ballsAtRest() {
        for (int slope = 29; slope <= 30; slope++) {
            Loft l = new Loft();
            l.x.board(1, 30, 0, 0, 0);
            l.x.board(1, -9, 0, 0, 0);
            l.x.board(1, slope, 0, 0, 0);
            l.x.board(40, -9, 0, 0, 0);
            l.run(0, 0, 1, 2, 1, 3, 3, 2, 3, 3, 3, 255, 255);
            l.x.machine(0, 0, 0, 0);
            l.x.machine(4, 0, 0, 0);
            Loft.due("the slow one rests", l.x.fall(0, 0, 0), -1);
            Loft.due("the fast one rests", l.x.fall(0, 1, 0), -1);
            l.score("at 0 use 0; at 3 use 1; at 500 use 0;");
            Loft.due("past it", l.x.night(), slope == 29 ? 4 : 3);
            told(l, 2, 0, 30 - slope, slope == 29 ? 4 : 3, slope == 29 ? 7 : 3);
            if (slope == 29) {
                l.heard(3, 505, 900, 4);
            }
            l.score("at 0 use 0; at 500 use 0;");
            Loft.due("level with it at rest", l.x.night(), 2);
            told(l, 2, 0, 0, 2, 2);
            l.score("at 0 use 1; at 1 use 0; at 5 use 1 with 0; at 500 use 0;");
            Loft.due("behind it at rest", l.x.night(), 4);
            told(l, 2, 0, 0, 4, 4);
        }
    }

    /** In TICK 20 ball 0 passes balls 1 and 2, with 48 and 47 by 16: the pair with the lesser number first. */
    private static void pairs() {
        Loft l = new Loft();
        l.x.board(1, 30, 0, 0, 0);
        l.x.board(1, 1, 0, 0, 0);
        l.x.board(3, 24, 0, 0, 0);
        l.x.board(40, 0, 0, 0, 0);
        l.run(0, 0, 1, 2, 1, 3, 2, 2, 3, 3, 3, 255, 255);
        l.x.machine(0, 0, 0, 0);
        l.x.machine(4, 0, 0, 0);
        l.x.machine(4, 0, 0, 1);
        l.score("at 3 use 0; at 7 use 0; at 7 use 2; at 8 use 0; at 8 use 1 with 0; at 9 use 1;");
        Loft.due("night", l.x.night(), 8);
        told(l, 3, 3, 2, 8, 11);
        l.heard(6, 20, 900, 3);
        l.heard(7, 20, 900, 2);
    }

    /** "BUMP (and go on as they were)": they knock in the TICKS in which each would alone. */
    private static void theyGoOn() {
        int[][] alone = new int[2][2];
        for (int n = 0; n < 3; n++) {
            Loft l = new Loft();
            l.x.board(1, 30, 0, 0, 0);
            l.x.board(1, 0, 0, 0, 0);
            l.x.board(1, 29, 0, 0, 0);
            l.x.board(40, 0, 0, 9, 0);
            l.run(0, 0, 1, 2, 1, 3, 3, 2, 3, 3, 3, 255, 255);
            l.x.machine(0, 0, 0, 0);
            l.x.machine(4, 0, 0, 0);
            if (n < 2) {
                l.score(n == 0 ? "at 0 use 0; at 2 use 1;" : "at 1 use 0; at 2 use 1;");
                Loft.due("one alone", l.x.night(), 3);
                alone[n] = new int[] {l.sound(2, 0), l.sound(2, 2)};
            } else {
                l.score("at 0 use 0; at 1 use 0; at 2 use 1;");
                Loft.due("both", l.x.night(), 6);
                Loft.due("a BUMP", l.x.told(2), 1);
                l.heard(4, alone[1][0], 103, alone[1][1]);
                l.heard(5, alone[0][0], 103, alone[0][1]);
            }
        }
    }

    /** "NONE for another what." */
    private static void numbersOfTold() {
        Loft l = new Loft();
        for (int night = 0; night < 2; night++) {
            Loft.due("told(5)", l.x.told(5), -1);
            Loft.due("told(4)", l.x.told(4), 0);
            Loft.due("told(0)", l.x.told(0), 0);
            for (int far : FAR) {
                Loft.due("told(" + far + ")", l.x.told(far), -1);
            }
            l.x.night();
        }
    }

    /** "NoSuchElementException: there is none such, or another what." */
    private static void numbersOfSound() {
        Loft l = new Loft();
        l.x.machine(3, 0, 0, 0);
        for (int n = 0; n <= 24; n += n == 2 ? 20 : 1) {
            l.score("at 0 use 0;".repeat(n));
            Loft.due("night", l.x.night(), n);
            for (int what = 0; what <= 2; what++) {
                Loft.due("the last one", n == 0 || l.sound(n - 1, what) != Loft.THROWN, true);
                Loft.due("behind the last one", l.sound(n, what), Loft.THROWN);
            }
            Loft.due("sound's what 3", l.sound(0, 3), Loft.THROWN);
            for (int far : FAR) {
                Loft.due("SOUND " + far, l.sound(far, 0), Loft.THROWN);
                Loft.due("sound's what " + far, l.sound(0, far), Loft.THROWN);
            }
        }
    }

    /** "Of the latest night()": what comes later, the SCORE and the RUN, changes nothing of it. */
    private static void latestNight() {
        Loft l = new Loft();
        l.x.board(1, 30, 0, 9, 0);
        l.x.board(1, 30, 0, 0, 0);
        l.run(0, 0, 255, 255);
        l.x.machine(0, 0, 0, 0);
        l.score("at 4 use 0;");
        Loft.due("ahead of night", l.sound(0, 0), Loft.THROWN);
        told(l, 0, 0, 0, 0, 0);
        l.x.night();
        l.run(0, 1, 255, 255);
        l.score("");
        l.score("x");
        l.x.fall(0, 0, 0);
        l.x.made();
        l.x.balls(0, 0);
        l.heard(0, 4, 0, 1);
        l.heard(1, 6, 100, 8);
        told(l, 1, 1, 0, 2, 9);
        Loft.due("the night of none", l.x.night(), 0);
        told(l, 0, 0, 0, 0, 0);
    }

    /** Balls that came to rest in one night are not there in the next one. */
    private static void noBallsOfOtherNights() {
        Loft l = new Loft();
        l.x.board(1, 30, 0, 0, 0);
        l.x.board(1, -9, 0, 0, 0);
        l.x.board(1, 29, 0, 0, 0);
        l.x.board(40, -9, 0, 0, 0);
        l.run(0, 0, 1, 2, 1, 3, 3, 2, 3, 3, 3, 255, 255);
        l.x.machine(0, 0, 0, 0);
        l.x.machine(4, 0, 0, 0);
        l.score("at 0 use 0; at 0 use 0; at 0 use 0; at 3 use 1; at 500 use 0;");
        Loft.due("past three of them", l.x.night(), 8);
        told(l, 4, 0, 3, 8, 17);
        l.score("at 0 use 1; at 500 use 0;");
        Loft.due("past none", l.x.night(), 2);
        told(l, 1, 0, 0, 2, 2);
        l.score("at 0 use 0; at 3 use 1; at 500 use 0;");
        Loft.due("past one of them", l.x.night(), 4);
        told(l, 2, 0, 1, 4, 7);
    }

    /** A SHEET, a DRUM and a BARREL whose numbers are those of a RUN and a PLACE neither turn a GATE nor let a ball go. */
    private static void otherKindsTurnNothing() {
        Loft l = new Loft();
        l.x.board(1, 30, 0, 9, 0);
        l.x.board(4, 0, 0, 9, 0);
        l.run(1, 0, 1, 255, 1, 255, 255);
        l.x.machine(0, 0, 1, 0);
        l.x.machine(1, 0, 1, 1);
        l.x.machine(2, 0, 1, 0);
        l.x.machine(3, 0, 1, 0);
        l.score("at 0 use 1; at 0 use 2; at 0 use 3; at 0 use 0 with 0; at 1 use 1; at 1 use 2; at 1 use 3;");
        Loft.due("night", l.x.night(), 9);
        told(l, 1, 1, 0, 9, 7 + 8 + 8);
        l.score("at 0 use 1; at 0 use 2; at 0 use 3;");
        Loft.due("no balls", l.x.night(), 3);
        told(l, 0, 0, 0, 3, 3);
    }

    /** "THE NIGHT is gone through anew": by the RUNS that there are now, as often as one likes. */
    private static void throughAnew() {
        Loft l = new Loft();
        l.x.board(1, 30, 0, 9, 0);
        l.x.board(1, 0, 0, 9, 0);
        l.run(0, 0, 255, 255);
        l.x.machine(0, 0, 0, 0);
        l.score("at 4 use 0; at 5 use 0;");
        for (int i = 0; i < 3; i++) {
            Loft.due("night", l.x.night(), 4);
            told(l, 2, 2, 0, 4, 18);
        }
        l.run(0, 1, 255, 255);
        told(l, 2, 2, 0, 4, 18);
        Loft.due("by the RUN as it is", l.x.night(), 2);
        told(l, 2, 0, 0, 2, 2);
    }
}
