/** Promises 6 and 7: the FALL of a RUN and its KNOCKS. */
final class FallTest {
    public static void main(String[] args) {
        rough();
        capped();
        turned();
        jumped();
        never();
        tick2000();
        gates();
        latest();
        Loft.close();
    }

    private static void falls(Loft l, int r, int gates, int end, int knocks, int jumped, int fastest) {
        Loft.due("fall(" + r + ", " + gates + ", 0)", l.x.fall(r, gates, 0), end);
        Loft.due("fall(" + r + ", " + gates + ", 1)", l.x.fall(r, gates, 1), knocks);
        Loft.due("fall(" + r + ", " + gates + ", 2)", l.x.fall(r, gates, 2), jumped);
        Loft.due("fall(" + r + ", " + gates + ", 3)", l.x.fall(r, gates, 3), fastest);
    }

    /** SPEED 10 - 2, 18 - 4, 24 - 5, 29 - 6: the part is 8, 22, 41 and just 64. */
    private static void rough() {
        Loft l = new Loft();
        l.x.board(1, 10, 15, 3, 0);
        l.run(0, 0, 255, 255);
        falls(l, 0, 0, 4, 1, 0, 23);
        l.knocked(0, 4, 0, 1);
        l.x.board(1, 10, 15, 2, 0);
        l.run(1, 1, 255, 255);
        falls(l, 1, 0, 4, 0, 0, 23);
        Loft.due("no KNOCK of 46 by 64", l.knock(0, 0), Loft.THROWN);
    }

    /** SPEED 1020 in TICK 34 at part 17850; then 1023 a TICK for the 12870 parts that are left. */
    private static void capped() {
        Loft l = new Loft();
        l.x.board(40, 30, 0, 0, 0);
        int[] b = new int[36];
        for (int p = 0; p < 12; p++) {
            b[3 * p + 1] = p == 11 ? 255 : p + 1;
            b[3 * p + 2] = 255;
        }
        l.run(0, b);
        falls(l, 0, 0, 47, 0, 0, 1023);
        falls(l, 0, 1, 13, 0, 0, 390);
        falls(l, 0, 1 << 11, 47, 0, 0, 1023);
        falls(l, 0, -1 << 12, 47, 0, 0, 1023);
    }

    /** SPEED 20, 40: part 60; SPEED 60: 120. KNOCK 5 * 60 / 64; SPEED 60 - 60 * 3 / 16 = 49; part 56 + 5 * 49 / 8 = 86. */
    private static void turned() {
        Loft l = new Loft();
        l.x.board(1, 20, 0, 5, 3);
        l.x.board(2, -9, 0, 0, 0);
        l.run(0, 0, 1, 1, 1, 255, 255);
        falls(l, 0, 0, 5, 1, 0, 49);
        l.knocked(0, 3, 0, 4);
    }

    /** SPEED 30, 60: part 90 of 64. KNOCK 8; part 26 + 67 = 93: PLACE 1 is jumped, without its TURN. */
    private static void jumped() {
        Loft l = new Loft();
        l.x.board(1, 30, 0, 9, 0);
        l.x.board(1, 30, 0, 9, 8);
        l.x.board(2, 0, 0, 9, 0);
        l.run(0, 0, 1, 1, 1, 2, 255, 2, 255, 255);
        falls(l, 0, 0, 4, 2, 1, 60);
        l.knocked(0, 2, 0, 8);
        l.knocked(1, 4, 2, 8);
        falls(l, 0, 2, 2, 1, 1, 60);
    }

    private static void never() {
        Loft l = new Loft();
        l.x.board(1, 0, 0, 9, 0);
        l.x.board(1, 8, 0, 0, 8);
        l.x.board(1, -9, 0, 0, 0);
        l.run(0, 0, 255, 255);
        falls(l, 0, 0, -1, 0, 0, 0);
        l.run(1, 1, 1, 255, 2, 255, 255);
        falls(l, 1, 0, -1, 0, 0, 24);
        falls(l, 1, 1, 4, 0, 0, 24);
        Loft.due("a RUN of no PLACES", l.x.fall(2, 0, 0), -2);
        Loft.due("fall(-1)", l.x.fall(-1, 0, 0), -2);
        Loft.due("fall(4)", l.x.fall(4, 0, 0), -2);
        Loft.due("what -1", l.x.fall(0, 0, -1), -2);
        Loft.due("what 4", l.x.fall(0, 0, 4), -2);
    }

    /** With ROUGH 4 the SPEED stays 15: 15 * 2000 - 105 parts up to TICK 2000; with 5 it is 12 * 2000 - 66. */
    private static void tick2000() {
        Loft l = new Loft();
        l.x.board(40, 1, 4, 0, 0);
        l.x.board(27, 1, 4, 1, 0);
        l.x.board(40, 1, 5, 0, 0);
        l.x.board(14, 1, 5, 9, 0);
        slowly(l, 12, 0, 1);
        falls(l, 0, 0, 2000, 0, 0, 15);
        Loft.due("balls by 2000", l.x.balls(0, 0), 0);
        slowly(l, 10, 2, 3);
        falls(l, 0, 0, -1, 0, 0, 12);
        Loft.due("balls by 2001", l.x.balls(0, 0), -2);
        Loft.due("balls of no number", l.x.balls(0, 1001), -1);
    }

    private static void slowly(Loft l, int places, int board, int last) {
        int[] b = new int[3 * places];
        for (int p = 0; p < places; p++) {
            b[3 * p] = p == places - 1 ? last : board;
            b[3 * p + 1] = p == places - 1 ? 255 : p + 1;
            b[3 * p + 2] = 255;
        }
        l.run(0, b);
    }

    private static void gates() {
        Loft l = new Loft();
        l.x.board(1, 8, 0, 0, 0);
        l.x.board(2, 8, 0, 9, 0);
        l.run(0, 0, 1, 2, 1, 2, 255, 0, 255, 255);
        falls(l, 0, 0, 7, 1, 1, 56);
        falls(l, 0, 1, 6, 0, 0, 48);
        falls(l, 0, 2, 7, 1, 0, 56);
        falls(l, 0, 3, 6, 0, 0, 48);
        falls(l, 0, 4, 7, 1, 1, 56);
    }

    private static void latest() {
        Loft l = new Loft();
        l.x.board(1, 30, 0, 9, 0);
        l.x.board(1, 8, 0, 0, 0);
        l.run(0, 0, 255, 255);
        l.run(1, 1, 255, 255);
        l.x.fall(0, 0, 2);
        l.knocked(0, 2, 0, 8);
        l.x.fall(0, 0, 9);
        l.x.fall(2, 0, 0);
        l.x.balls(1, 0);
        l.lay(1, 3);
        l.worn(1, 3);
        l.run(0, 1, 255, 255);
        l.knocked(0, 2, 0, 8);
        Loft.due("knock(1)", l.knock(1, 0), Loft.THROWN);
        Loft.due("knock(-1)", l.knock(-1, 0), Loft.THROWN);
        Loft.due("knock(0, 3)", l.knock(0, 3), Loft.THROWN);
        Loft.due("knock(0, -1)", l.knock(0, -1), Loft.THROWN);
        l.x.fall(1, 0, 0);
        Loft.due("knock(0) of none", l.knock(0, 0), Loft.THROWN);
    }
}
