/** Promises 13 to 15: THE NIGHT, its SOUNDS, and what is told of it. */
final class NightTest {
    public static void main(String[] args) {
        nothing();
        oneTick();
        gatesOfTheNight();
        bumps();
        silentBumps();
        manySounds();
        anew();
        shorterRun();
        Loft.close();
    }

    private static void told(Loft l, int... want) {
        for (int what = 0; what < 5; what++) {
            Loft.due("told(" + what + ")", l.x.told(what), want[what]);
        }
    }

    private static void nothing() {
        Loft l = new Loft();
        Loft.due("night of nothing", l.x.night(), 0);
        told(l, 0, 0, 0, 0, 0);
        Loft.due("told(5)", l.x.told(5), -1);
        Loft.due("told(-1)", l.x.told(-1), -1);
        l.x.machine(3, 0, 0, 0);
        l.score("at 0 use 0 with 9;");
        Loft.due("a TICK 0", l.x.night(), 1);
        l.heard(0, 0, 0, 9);
        Loft.due("sound(1)", l.sound(1, 0), Loft.THROWN);
        Loft.due("sound(-1)", l.sound(-1, 0), Loft.THROWN);
        Loft.due("sound what 3", l.sound(0, 3), Loft.THROWN);
        Loft.due("sound what -1", l.sound(0, -1), Loft.THROWN);
    }

    /** Balls first, the lesser number first, then the EVENTS as they came. */
    private static void oneTick() {
        Loft l = new Loft();
        l.x.board(1, 30, 0, 9, 0);
        l.run(1, 0, 255, 255);
        l.run(3, 0, 255, 255);
        l.x.machine(0, 0, 3, 0);
        l.x.machine(0, 0, 1, 0);
        l.x.machine(2, 0, 0, 0);
        l.x.machine(1, 0, 3, 1);
        l.score("at 5 use 0 with 44; at 5 use 1 with 0; at 7 use 3 with 50; at 7 use 2 with 500;");
        Loft.due("night", l.x.night(), 6);
        l.heard(0, 5, 0, 1);
        l.heard(1, 5, 1, 1);
        l.heard(2, 7, 400, 8);
        l.heard(3, 7, 200, 8);
        l.heard(4, 7, 3, 50);
        l.heard(5, 7, 2, 500);
        told(l, 2, 2, 0, 6, 568);
    }

    /** A GATE leads on as it stands when the ball leaves: turned in that TICK is too late. */
    private static void gatesOfTheNight() {
        Loft l = new Loft();
        l.x.board(1, 30, 0, 9, 0);
        l.x.board(4, 0, 0, 9, 0);
        l.run(0, 0, 1, 255, 1, 255, 255);
        l.x.machine(0, 0, 0, 0);
        l.x.machine(4, 0, 0, 0);
        l.score("at 10 use 0; at 11 use 1;");
        l.x.night();
        told(l, 1, 1, 0, 3, 10);
        l.score("at 10 use 0; at 12 use 1;");
        l.x.night();
        told(l, 1, 1, 0, 4, 18);
        l.score("at 9 use 1; at 10 use 0; at 11 use 1 with 0;");
        l.x.night();
        told(l, 1, 1, 0, 5, 19);
        l.heard(0, 9, 1, 1);
        l.heard(2, 11, 1, 1);
        l.heard(3, 12, 100, 8);
        l.heard(4, 15, 101, 8);
        l.score("at 10 use 0;");
        l.x.night();
        told(l, 1, 1, 0, 3, 17);
        Loft.due("the night leaves GATES of fall", l.x.fall(0, 0, 1), 2);
    }

    /**
     * PLACE 0 leads to 1 (flat: SPEED stays 60) or, turned, to 2 (steep), both to 3, on which the
     * faster one comes upon the slower one.
     */
    private static Loft meeting(int flatLength, int steepSlope) {
        Loft l = new Loft();
        l.x.board(1, 30, 0, 0, 0);
        l.x.board(flatLength, 0, 0, 0, 0);
        l.x.board(flatLength, steepSlope, 0, 0, 0);
        l.x.board(40, 0, 0, 0, 0);
        l.run(2, 0, 1, 2, 1, 3, 3, 2, 3, 3, 3, 255, 255);
        l.x.machine(0, 0, 2, 0);
        l.x.machine(4, 0, 2, 0);
        return l;
    }

    /**
     * Ball 0 is at part 46 of PLACE 3 in TICK 13, and 60 more in each. Ball 1, let go in TICK 11, comes
     * there in TICK 18 at 136 with SPEED 210: 346 and 406 in TICK 19, 556 and 466 in TICK 20. Let go in
     * TICK 10 it is level with ball 0 in TICK 18: not the lesser part ahead, nor the greater behind.
     */
    private static void bumps() {
        Loft l = meeting(10, 30);
        l.score("at 0 use 0; at 3 use 1; at 11 use 0;");
        Loft.due("night with a BUMP", l.x.night(), 4);
        told(l, 2, 2, 1, 4, 12);
        l.heard(3, 20, 902, 9);
        l.score("at 0 use 0; at 3 use 1; at 10 use 0;");
        l.x.night();
        told(l, 2, 2, 0, 3, 3);
        l.score("at 0 use 0; at 3 use 1; at 3 use 0;");
        l.x.night();
        told(l, 2, 2, 0, 3, 3);
        l.score("at 0 use 0; at 0 use 0; at 3 use 1; at 11 use 0;");
        Loft.due("night with two BUMPS", l.x.night(), 6);
        told(l, 3, 3, 2, 6, 22);
        l.heard(4, 20, 902, 9);
        l.heard(5, 20, 902, 9);
    }

    /**
     * On PLACE 2 of SLOPE 1 ball 1 comes to SPEED 70, and to part 41 of PLACE 3 in TICK 13, when ball 0
     * is at 46. It passes it in TICK 14: a BUMP, but 10 by 16 is no sound.
     */
    private static void silentBumps() {
        Loft l = meeting(10, 1);
        l.score("at 0 use 0; at 1 use 0; at 2 use 1;");
        Loft.due("night with a silent BUMP", l.x.night(), 3);
        told(l, 2, 2, 1, 3, 3);
    }

    /** 24 balls of 12 KNOCKS each and their HEADS: 312 sounds, of which 300 are kept. */
    private static void manySounds() {
        Loft l = new Loft();
        l.x.board(1, 30, 15, 3, 8);
        int[] b = new int[36];
        for (int p = 0; p < 12; p++) {
            b[3 * p + 1] = p == 11 ? 255 : p + 1;
            b[3 * p + 2] = 255;
        }
        l.run(0, b);
        l.x.machine(0, 0, 0, 0);
        l.score("times 12 every 1 at 0 use 0; at 0 use 0; end");
        Loft.due("KNOCKS", l.x.fall(0, 0, 1), 12);
        int each = 0;
        for (int k = 0; k < 12; k++) {
            each += l.knock(k, 2);
        }
        Loft.due("kept SOUNDS", l.x.night(), 300);
        told(l, 24, 24, 0, 312, 24 + 24 * each);
        Loft.due("SOUND 299", l.sound(299, 1) >= 100, true);
        Loft.due("SOUND 300", l.sound(300, 1), Loft.THROWN);
    }

    private static void anew() {
        Loft l = new Loft();
        l.x.board(1, 30, 0, 9, 0);
        l.run(0, 0, 255, 255);
        l.x.machine(0, 0, 0, 0);
        l.score("at 4 use 0;");
        l.x.night();
        l.score("");
        l.heard(1, 6, 100, 8);
        told(l, 1, 1, 0, 2, 9);
        Loft.due("night without EVENTS", l.x.night(), 0);
        told(l, 0, 0, 0, 0, 0);
        lastTick(l);
    }

    /** With ROUGH 4 it is 15 * 400 - 105 parts in 400 TICKS: of 5888 the ball comes to its end, of 5952 not. */
    private static void lastTick(Loft l) {
        l.x.board(40, 1, 4, 0, 0);
        l.x.board(12, 1, 4, 9, 0);
        l.x.board(13, 1, 4, 9, 0);
        String text = "times 3 every 2000 at 0 use 0; end";
        l.run(0, 1, 1, 1, 1, 2, 2, 2, 255, 255);
        l.score(text);
        Loft.due("night", l.x.night(), 6);
        told(l, 3, 3, 0, 6, 9);
        l.heard(5, 4400, 102, 2);
        l.run(0, 1, 1, 1, 1, 2, 2, 3, 255, 255);
        Loft.due("longer", l.x.night(), 5);
        told(l, 3, 2, 0, 5, 7);
        l.score("times 2 every 2000 at 1996 use 0; end");
        l.x.night();
        told(l, 2, 2, 0, 4, 6);
        l.score("times 2 every 2000 at 1997 use 0; end");
        l.x.night();
        told(l, 2, 1, 0, 3, 4);
    }

    /** A GATE of a PLACE that its RUN no longer has is turned and heard, and leads nothing. */
    private static void shorterRun() {
        Loft l = new Loft();
        l.x.board(1, 30, 0, 9, 0);
        l.run(0, 0, 1, 1, 0, 255, 255);
        l.x.machine(4, 0, 0, 1);
        l.x.machine(0, 0, 0, 0);
        l.run(0, 0, 255, 255);
        l.score("at 1 use 0; at 2 use 1;");
        Loft.due("night", l.x.night(), 3);
        l.heard(0, 1, 0, 1);
        l.heard(2, 4, 100, 8);
    }
}
