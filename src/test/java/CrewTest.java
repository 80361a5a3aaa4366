/** Promises 16 to 19: MADE by MEN, who does what, BALLS needed and FILLINGS. */
final class CrewTest {
    public static void main(String[] args) {
        noMen();
        ways();
        firstOfLikeOnes();
        mostWorth();
        whoStays();
        balls();
        fillings();
        cannotBeFilled();
        Loft.close();
    }

    private static void made(Loft l, int worth, int... who) {
        Loft.due("made", l.x.made(), worth);
        for (int e = 0; e < who.length; e++) {
            Loft.due("who(" + e + ")", l.x.who(e), who[e]);
        }
    }

    private static void noMen() {
        Loft l = new Loft();
        l.x.machine(3, 0, 0, 0);
        made(l, 0, -1);
        l.score("at 0 use 0 with 9;");
        made(l, 0, -1, -1);
        l.x.man(0);
        Loft.due("by the latest made", l.x.who(0), -1);
        made(l, 9, 0, -1);
        Loft.due("who(-1)", l.x.who(-1), -1);
        Loft.due("who(24)", l.x.who(24), -1);
        Loft.due("who(max)", l.x.who(Integer.MAX_VALUE), -1);
    }

    /** How long each kind takes, and one TICK for each x from there and from where he was at first. */
    private static void ways() {
        String[] uses = {"use 0", "use 1 with 7", "use 2 with 30", "use 3 with 7", "use 4"};
        int[] takes = {1, 28, 30, 1, 1};
        int[] worth = {1, 7, 30, 7, 1};
        for (int m = 0; m < 5; m++) {
            for (int late = 0; late < 2; late++) {
                Loft l = new Loft();
                l.x.board(1, 1, 0, 0, 0);
                l.run(0, 0, 255, 255);
                l.x.machine(0, 10, 0, 0);
                l.x.machine(1, 10, 9, 9);
                l.x.machine(2, 10, 0, 0);
                l.x.machine(3, 10, 0, 0);
                l.x.machine(4, 10, 0, 0);
                l.x.machine(3, 25, 0, 0);
                l.x.man(4);
                int next = 6 + takes[m] + 15 - late;
                l.score("at 6 " + uses[m] + "; at " + next + " use 5 with 99;");
                made(l, late == 1 ? 99 : 99 + worth[m], late == 1 ? -1 : 0, 0);
                l.score("at 5 " + uses[m] + ";");
                made(l, 0, -1);
            }
        }
    }

    private static void firstOfLikeOnes() {
        Loft l = new Loft();
        l.x.machine(3, 10, 0, 0);
        l.x.machine(3, 10, 0, 0);
        l.x.man(10);
        l.x.man(10);
        l.score("at 5 use 0 with 4; at 5 use 1 with 4; at 5 use 0 with 4;");
        made(l, 8, 0, 1, -1);
        l.score("at 5 use 0 with 4; at 6 use 1 with 4; at 7 use 0 with 4;");
        made(l, 12, 0, 0, 0);
        l.score("at 5 use 0 with 4; at 5 use 1 with 5; at 5 use 0 with 5; at 6 use 0;");
        made(l, 11, -1, 0, 1, 0);
    }

    /** The man 0 leaves the near EVENT to the man 1, since nobody else comes to the far one. */
    private static void mostWorth() {
        Loft l = new Loft();
        l.x.machine(3, 10, 0, 0);
        l.x.machine(3, 60, 0, 0);
        l.x.machine(2, 0, 0, 0);
        l.x.man(40);
        l.x.man(0);
        l.score("at 30 use 0 with 5; at 35 use 1 with 5;");
        made(l, 10, 1, 0);
        l.score("at 30 use 0 with 5; at 40 use 2 with 4; at 40 use 1 with 5; at 44 use 2 with 2; at 52 use 0 with 9;");
        made(l, 20, 0, 1, -1, 1, 0);
    }

    private static void whoStays() {
        Loft l = new Loft();
        l.x.machine(3, 0, 0, 0);
        l.x.man(0);
        l.score("at 1 use 0 with 3;");
        Loft.due("ahead of made", l.x.who(0), -1);
        made(l, 3, 0);
        l.score("at 1 use");
        Loft.due("a FAULT is no other SCORE", l.x.who(0), 0);
        l.score("at 1 use 0 with 3;");
        Loft.due("another SCORE", l.x.who(0), -1);
        made(l, 3, 0);
    }

    /** The ball ends in TICK 4 behind its start. */
    private static void balls() {
        Loft l = new Loft();
        l.x.board(1, 8, 0, 0, 0);
        l.x.board(1, 0, 0, 0, 0);
        l.run(0, 0, 255, 255);
        l.run(1, 1, 255, 255);
        l.run(2, 0, 255, 255);
        l.x.machine(0, 0, 0, 0);
        l.x.machine(0, 9, 0, 0);
        l.x.machine(0, 9, 1, 0);
        l.x.machine(4, 9, 0, 0);
        Loft.due("no EVENTS", l.x.balls(0, 0), 0);
        l.score("at 0 use 0; at 4 use 1; at 8 use 0; at 10 use 1; at 11 use 2; at 12 use 3;");
        Loft.due("balls(0, 0)", l.x.balls(0, 0), 2);
        Loft.due("balls(0, 1)", l.x.balls(0, 1), 2);
        Loft.due("balls(0, 4)", l.x.balls(0, 4), 3);
        Loft.due("balls(0, 6)", l.x.balls(0, 6), 3);
        Loft.due("balls(0, 7)", l.x.balls(0, 7), 4);
        Loft.due("balls(0, 1000)", l.x.balls(0, 1000), 4);
        Loft.due("balls(0, 1001)", l.x.balls(0, 1001), -1);
        Loft.due("balls(0, -1)", l.x.balls(0, -1), -1);
        Loft.due("balls(1, 0)", l.x.balls(1, 0), -2);
        Loft.due("balls(1, -1)", l.x.balls(1, -1), -1);
        Loft.due("balls(2, 0)", l.x.balls(2, 0), 0);
        Loft.due("balls(3, 0)", l.x.balls(3, 0), -1);
        Loft.due("balls(4, 0)", l.x.balls(4, 0), -1);
        Loft.due("balls(-1, 0)", l.x.balls(-1, 0), -1);
        l.score("at 0 use 0; at 4 use 0; at 8 use 1; at 8 use 0;");
        Loft.due("free again then", l.x.balls(0, 0), 2);
        l.run(0, 1, 255, 255);
        Loft.due("a RUN anew", l.x.balls(0, 0), -2);
    }

    private static Loft barrel(int turns, int takes) {
        Loft l = new Loft();
        l.x.machine(3, 0, 0, 0);
        l.x.machine(1, 0, turns, takes);
        l.x.machine(1, 0, 1, 1);
        return l;
    }

    private static void fillings() {
        Loft l = barrel(10, 8);
        Loft.due("without EVENTS", l.x.fillings(1), 0);
        Loft.due("a SHEET", l.x.fillings(0), -1);
        Loft.due("no MACHINE", l.x.fillings(3), -1);
        Loft.due("fillings(-1)", l.x.fillings(-1), -1);
        l.score("at 0 use 1 with 10;");
        Loft.due("full at first", l.x.fillings(1), 0);
        l.score("at 0 use 1 with 5; at 0 use 2; at 28 use 1 with 6;");
        Loft.due("just filled", l.x.fillings(1), 1);
        l.score("at 0 use 1 with 5; at 27 use 1 with 6;");
        Loft.due("too late", l.x.fillings(1), -2);
        l.score("at 0 use 1 with 5; at 20 use 1 with 5;");
        Loft.due("just enough", l.x.fillings(1), 0);
        l.score("at 0 use 1 with 5; at 100 use 1 with 4; at 200 use 1 with 4; at 300 use 1 with 6; at 400 use 1 with 10;");
        Loft.due("as few as can be", l.x.fillings(1), 2);
        l.score("at 0 use 1 with 4; at 100 use 1 with 4; at 117 use 1 with 6;");
        Loft.due("filled ahead of the one in haste", l.x.fillings(1), 1);
        l.score("at 0 use 1 with 4; at 100 use 1 with 4; at 117 use 1 with 7;");
        Loft.due("not enough by that", l.x.fillings(1), -2);
    }

    private static void cannotBeFilled() {
        Loft l = barrel(10, 8);
        l.score("at 500 use 1 with 11;");
        Loft.due("more than it holds", l.x.fillings(1), -2);
        l.score("at 0 use 1 with 8; at 10 use 1 with 1; at 40 use 1 with 2;");
        Loft.due("turned up to TICK 32", l.x.fillings(1), 1);
        l.score("at 0 use 1 with 8; at 10 use 1 with 1; at 39 use 1 with 2;");
        Loft.due("turned by the longer one", l.x.fillings(1), -2);
        l.score("at 9 use 1 with 6; at 9 use 1 with 5;");
        Loft.due("two in one TICK", l.x.fillings(1), -2);
    }
}
