/** The boundary cases of promises 16 to 19: MADE by MEN, who does what, BALLS needed and FILLINGS. */
final class EdgeCrewTest {
    private static final int[] FAR = {Integer.MIN_VALUE, -65536, -2, -1, 65536, Integer.MAX_VALUE};

    public static void main(String[] args) {
        nobodyAndNothing();
        wayInTickNothing();
        howLongEachTakes();
        wayFromMachineToMachine();
        worth();
        fourMen();
        notTheMostEvents();
        eachByOne();
        leastManNoneLast();
        firstByEvents();
        whoOfLatestMade();
        numbersOfWho();
        fullScore();
        numbersOfBalls();
        ballThatDoesNotEnd();
        ballThatEndsInTick2000();
        freeAgainThen();
        ballsOfOneRun();
        ballsByGatesAtFirst();
        numbersOfFillings();
        fullAtFirst();
        fillingFits();
        fillingFromTickNothing();
        notWhileItIsTurned();
        fullBehindEach();
        fewestFillings();
        Loft.close();
    }

    private static void made(Loft l, int worth, int... who) {
        Loft.due("made", l.x.made(), worth);
        for (int e = 0; e < who.length; e++) {
            Loft.due("who(" + e + ")", l.x.who(e), who[e]);
        }
    }

    /** A HEAD, a BARREL, a DRUM, a SHEET and a GATE, all at an x. */
    private static Loft loft(int x) {
        Loft l = new Loft();
        l.x.board(1, 8, 0, 0, 0);
        l.run(0, 0, 255, 255);
        l.x.machine(0, x, 0, 0);
        l.x.machine(1, x, 9, 9);
        l.x.machine(2, x, 0, 0);
        l.x.machine(3, x, 0, 0);
        l.x.machine(4, x, 0, 0);
        return l;
    }

    private static void nobodyAndNothing() {
        Loft l = loft(0);
        made(l, 0, -1);
        l.x.man(0);
        made(l, 0, -1);
        l.score("at 0 use 3 with 99;");
        Loft.due("ahead of made", l.x.who(0), -1);
        made(l, 99, 0, -1);
        Loft none = loft(0);
        none.score("at 2000 use 3 with 99;");
        made(none, 0, -1);
    }

    /** "at x of it in TICK 0 as many TICKS as it is away", to either side. */
    private static void wayInTickNothing() {
        int[] ends = {0, 1, 2, 50, 98, 99};
        for (int home : ends) {
            for (int x : ends) {
                int away = Math.abs(home - x);
                Loft l = loft(x);
                l.x.man(home);
                for (int t = Math.max(0, away - 1); t <= away + 1; t++) {
                    l.score("at " + t + " use 3 with 7;");
                    made(l, t >= away ? 7 : 0, t >= away ? 0 : -1);
                }
            }
        }
    }

    /** "a HEAD, SHEET, GATE 1 TICK, a BARREL 4 a turn, a DRUM as long as told": the next one begins when it has ended. */
    private static void howLongEachTakes() {
        String[] uses = {"0 with 0", "0 with 9999", "1 with 1", "1 with 99", "2 with 1", "2 with 500", "3 with 1",
            "3 with 99", "4 with 0", "4 with 1"};
        int[] takes = {1, 1, 4, 396, 1, 500, 1, 1, 1, 1};
        int[] worth = {1, 1, 1, 99, 1, 500, 1, 99, 1, 1};
        for (int i = 0; i < uses.length; i++) {
            for (int late = -1; late <= 1; late++) {
                Loft l = loft(5);
                l.x.man(5);
                int next = 100 + takes[i] + late;
                l.score("at 100 use " + uses[i] + "; at " + next + " use 3 with 50;");
                boolean both = late >= 0;
                boolean first = worth[i] >= 50;
                made(l, both ? worth[i] + 50 : Math.max(worth[i], 50), both || first ? 0 : -1, both || !first ? 0 : -1);
            }
        }
    }

    /** "and he has gone there (1 TICK for each x)": from 0 to 99, and back. */
    private static void wayFromMachineToMachine() {
        for (int from = 0; from <= 99; from += 33) {
            for (int to = 0; to <= 99; to += 33) {
                for (int late = -1; late <= 1; late++) {
                    Loft l = new Loft();
                    l.x.machine(3, from, 0, 0);
                    l.x.machine(3, to, 0, 0);
                    l.x.man(from);
                    int next = 200 + 1 + Math.abs(from - to) + late;
                    l.score("at 200 use 0 with 9; at " + next + " use 1 with 4;");
                    made(l, late >= 0 ? 13 : 9, 0, late >= 0 ? 0 : -1);
                }
            }
        }
    }

    /** "WORTH: how strong it is": a HEAD and a GATE 1, whatever their NUMBER. */
    private static void worth() {
        String[] uses = {"0 with 0", "0 with 9999", "1 with 99", "2 with 500", "3 with 99", "4 with 0", "4 with 1"};
        int[] worth = {1, 1, 99, 500, 99, 1, 1};
        for (int i = 0; i < uses.length; i++) {
            Loft l = loft(0);
            l.x.man(0);
            l.score("at 0 use " + uses[i] + ";");
            made(l, worth[i], 0);
        }
    }

    /** "MEN 0 .. 3": as many EVENTS of one TICK as there are MEN. */
    private static void fourMen() {
        Loft l = loft(7);
        for (int men = 0; men <= 5; men++) {
            int all = Math.min(men, 4);
            for (int events = 0; events <= 6; events++) {
                l.score("at 9 use 3 with 5;".repeat(events));
                int done = Math.min(all, events);
                Loft.due("made", l.x.made(), 5 * done);
                for (int e = 0; e < events; e++) {
                    Loft.due("who(" + e + ")", l.x.who(e), e < done ? e : -1);
                }
            }
            l.x.man(7);
        }
    }

    /** "the most WORTH together": one EVENT of more is ahead of many of less, and many of more ahead of it. */
    private static void notTheMostEvents() {
        Loft l = loft(0);
        l.x.man(0);
        for (int n = 1; n <= 12; n++) {
            for (int worth = 1; worth <= 14; worth++) {
                l.score("at 9 use 1 with " + worth + "; at 9 use 3 with 1;" + " at 10 use 3 with 1;".repeat(n > 1 ? 1 : 0)
                    + (n > 2 ? " times " + (n - 2) + " every 1 at 11 use 3 with 1; end" : ""));
                int busy = 4 * worth;
                int others = Math.max(0, n - busy);
                Loft.due("made of " + worth + " or " + n, l.x.made(), Math.max(n, worth + others));
                Loft.due("who(0)", l.x.who(0), worth + others >= n ? 0 : -1);
            }
            l = loft(0);
            l.x.man(0);
        }
        l.score("at 0 use 2 with 5; at 0 use 3 with 2; at 1 use 3 with 2; at 2 use 3 with 2;");
        made(l, 6, -1, 0, 0, 0);
        l.score("at 0 use 2 with 5; at 0 use 3 with 2; at 1 use 3 with 2; at 2 use 3 with 1;");
        made(l, 5, 0, -1, -1, -1);
        l.score("at 0 use 2 with 5; at 0 use 3 with 1; at 1 use 3 with 1; at 2 use 3 with 2;");
        made(l, 5, 0, -1, -1, -1);
    }

    /** "each EVENT by one at most", and a man does one at a time. */
    private static void eachByOne() {
        Loft l = loft(0);
        l.x.man(0);
        l.x.man(0);
        l.x.man(0);
        l.score("at 3 use 3 with 9;");
        made(l, 9, 0);
        l.score("at 3 use 2 with 9; at 11 use 2 with 9; at 12 use 2 with 9;");
        made(l, 27, 0, 1, 0);
    }

    /** "of like ones the first: by EVENTS in their order, the least man, none last." */
    private static void leastManNoneLast() {
        Loft l = new Loft();
        l.x.machine(3, 50, 0, 0);
        l.x.man(99);
        l.x.man(40);
        l.x.man(60);
        l.score("at 10 use 0 with 3;");
        made(l, 3, 1);
        l.score("at 48 use 0 with 3;");
        made(l, 3, 1);
        l.score("at 49 use 0 with 3;");
        made(l, 3, 0);
        l.score("at 10 use 0 with 3; at 10 use 0 with 3; at 10 use 0 with 3;");
        made(l, 6, 1, 2, -1);
        l.score("at 10 use 0 with 3; at 10 use 0 with 3; at 10 use 0 with 4;");
        made(l, 7, 1, -1, 2);
        l.score("at 9 use 0 with 3;");
        made(l, 0, -1);
    }

    /** The first EVENT has the least man, though with another one more of the later ones would be his. */
    private static void firstByEvents() {
        Loft l = new Loft();
        l.x.machine(3, 10, 0, 0);
        l.x.machine(3, 20, 0, 0);
        l.x.man(10);
        l.x.man(10);
        l.score("at 20 use 0 with 1; at 20 use 1 with 1; at 31 use 0 with 1;");
        made(l, 3, 0, 1, 0);
        l.score("at 20 use 0 with 1; at 25 use 1 with 2; at 36 use 0 with 1;");
        made(l, 4, 0, 1, 0);
        l.score("at 20 use 0 with 1; at 25 use 1 with 1; at 26 use 0 with 1; at 30 use 1 with 1;");
        made(l, 4, 0, 1, 0, 1);
        Loft far = new Loft();
        far.x.machine(3, 8, 0, 0);
        far.x.machine(3, 0, 0, 0);
        far.x.man(5);
        far.x.man(0);
        far.score("at 10 use 1 with 2; at 10 use 1 with 2; at 12 use 0 with 1; at 15 use 0 with 2;");
        made(far, 5, 0, -1, 1, 1);
        Loft one = new Loft();
        one.x.machine(3, 0, 0, 0);
        one.x.machine(3, 5, 0, 0);
        one.x.man(0);
        one.score("at 1 use 0 with 2; at 3 use 0 with 2; at 6 use 1 with 4; at 7 use 0 with 2;");
        made(one, 6, 0, 0, -1, 0);
        one.score("at 1 use 0 with 1; at 6 use 1 with 1; at 7 use 0 with 1;");
        made(one, 2, 0, -1, 0);
        one.score("at 1 use 0 with 1; at 7 use 1 with 1; at 8 use 0 with 1;");
        made(one, 2, 0, 0, -1);
        one.score("at 2 use 0 with 1; at 2 use 0 with 1;");
        made(one, 1, 0, -1);
    }

    /** "NONE: nobody, no such EVENT, or another SCORE came since, or ahead of any." */
    private static void whoOfLatestMade() {
        Loft l = loft(0);
        l.x.man(0);
        l.score("at 0 use 3 with 4; at 0 use 3 with 5;");
        Loft.due("ahead of any", l.x.who(1), -1);
        made(l, 5, -1, 0, -1);
        l.x.man(0);
        Loft.due("a man more", l.x.who(0), -1);
        l.x.machine(3, 9, 0, 0);
        l.x.night();
        l.x.balls(0, 0);
        l.run(0, 0, 255, 255);
        Loft.due("no other SCORE", l.x.who(1), 0);
        l.score("at 0 use 3 with 4; at");
        Loft.due("a FAULT", l.x.who(1), 0);
        made(l, 9, 0, 1, -1);
        l.score("at 0 use 3 with 4; at 0 use 3 with 5;");
        Loft.due("another SCORE", l.x.who(0), -1);
        Loft.due("another SCORE", l.x.who(1), -1);
        made(l, 9, 0, 1, -1);
        l.score("");
        Loft.due("no such EVENT", l.x.who(0), -1);
        made(l, 0, -1, -1);
    }

    private static void numbersOfWho() {
        for (int n = 1; n <= 24; n++) {
            Loft l = loft(0);
            l.x.man(0);
            l.score("times 1 every 1 " + "at 0 use 2 with 1;".repeat(n - 1) + "at 1 use 3 with 9; end");
            made(l, n == 1 ? 9 : 10);
            Loft.due("the last EVENT", l.x.who(n - 1), 0);
            Loft.due("behind the last EVENT", l.x.who(n), -1);
            for (int far : FAR) {
                Loft.due("who(" + far + ")", l.x.who(far), -1);
            }
        }
    }

    /** 24 EVENTS, of which each man can do one in three TICKS. */
    private static void fullScore() {
        Loft l = new Loft();
        l.x.machine(2, 0, 0, 0);
        StringBuilder s = new StringBuilder();
        for (int t = 0; t < 24; t++) {
            s.append("at ").append(t).append(" use 0 with 3;");
        }
        for (int men = 1; men <= 4; men++) {
            l.x.man(0);
            Loft.due("24 EVENTS", l.score(s.toString()), 24);
            Loft.due("made", l.x.made(), 3 * (men >= 3 ? 24 : 8 * men));
            for (int e = 0; e < 24; e++) {
                Loft.due("who(" + e + ")", l.x.who(e), e % 3 < men ? e % 3 : -1);
            }
        }
    }

    // ---- BALLS

    /** "each back so many TICKS later (0 to 1000)": "NONE: no such RUN, or number". */
    private static void numbersOfBalls() {
        Loft l = loft(0);
        int[] no = {-1, 1, 2, 3, 4, Integer.MIN_VALUE, Integer.MAX_VALUE};
        for (int r : no) {
            Loft.due("RUN " + r, l.x.balls(r, 0), -1);
            Loft.due("RUN " + r, l.x.balls(r, 1001), -1);
        }
        int[] backs = {-1, 0, 1, 999, 1000, 1001, Integer.MIN_VALUE, Integer.MAX_VALUE};
        l.score("at 0 use 0; at 1003 use 0;");
        for (int back : backs) {
            boolean told = back >= 0 && back <= 1000;
            Loft.due("back " + back, l.x.balls(0, back), !told ? -1 : back >= 1000 ? 2 : 1);
        }
        for (int r = 3; r >= 1; r--) {
            l.run(r, 0, 255, 255);
            Loft.due("without EVENTS", l.x.balls(r, 0), 0);
            Loft.due("without EVENTS, back", l.x.balls(r, 1000), 0);
            Loft.due("without EVENTS, no number", l.x.balls(r, 1001), -1);
        }
    }

    /** "-2: its BALL does not end (also without EVENTS)". */
    private static void ballThatDoesNotEnd() {
        Loft l = new Loft();
        l.x.board(1, 0, 0, 9, 0);
        l.run(0, 0, 255, 255);
        Loft.due("without SCORE", l.x.balls(0, 0), -2);
        Loft.due("no number", l.x.balls(0, -1), -1);
        Loft.due("no number", l.x.balls(0, 1001), -1);
        Loft.due("no RUN", l.x.balls(1, 0), -1);
        l.x.machine(0, 0, 0, 0);
        l.score("at 0 use 0;");
        Loft.due("with an EVENT", l.x.balls(0, 1000), -2);
        l.score("");
        Loft.due("without EVENTS", l.x.balls(0, 0), -2);
    }

    private static Loft slowly(int places, int rough, int last) {
        Loft l = new Loft();
        l.x.board(40, 1, rough, 0, 0);
        l.x.board(last, 1, rough, 0, 0);
        int[] run = new int[3 * places];
        for (int p = 0; p < places; p++) {
            run[3 * p] = p == places - 1 ? 1 : 0;
            run[3 * p + 1] = p == places - 1 ? 255 : p + 1;
            run[3 * p + 2] = 255;
        }
        l.run(0, run);
        l.x.machine(0, 0, 0, 0);
        return l;
    }

    /** By its FALL, which is followed up to TICK 2000: with 12 PLACES it ends in that, with 10 in TICK 2001. */
    private static void ballThatEndsInTick2000() {
        Loft in = slowly(12, 4, 27);
        Loft late = slowly(10, 5, 14);
        Loft.due("in TICK 2000", in.x.balls(0, 0), 0);
        Loft.due("in TICK 2001", late.x.balls(0, 0), -2);
        in.score("times 3 every 2000 at 0 use 0; end");
        Loft.due("back in TICK 2000", in.x.balls(0, 0), 1);
        Loft.due("back in TICK 2001", in.x.balls(0, 1), 2);
        Loft.due("back in TICK 3000", in.x.balls(0, 1000), 2);
        in.score("times 3 every 1999 at 0 use 0; end");
        Loft.due("wanted in TICK 1999", in.x.balls(0, 0), 2);
        late.score("times 3 every 2000 at 0 use 0; end");
        Loft.due("in TICK 2001 with EVENTS", late.x.balls(0, 0), -2);
    }

    /** "one let go is free again then": it ends 4 TICKS behind that in which it was let go. */
    private static void freeAgainThen() {
        Loft l = loft(0);
        Loft.due("its FALL", l.x.fall(0, 0, 0), 4);
        for (int back = 0; back <= 3; back++) {
            for (int gap = 1; gap <= 9; gap++) {
                l.score("times 6 every " + gap + " at 7 use 0; end");
                int away = 4 + back;
                Loft.due("back " + back + ", every " + gap, l.x.balls(0, back), Math.min(6, (away + gap - 1) / gap));
            }
            l = loft(0);
        }
        for (int n = 0; n <= 24; n++) {
            l.score("at 7 use 0;".repeat(n));
            Loft.due("of one TICK", l.x.balls(0, 0), n);
        }
    }

    /** "all its EVENTS": of each HEAD of it, of no other RUN, of no other MACHINE. */
    private static void ballsOfOneRun() {
        Loft l = loft(0);
        l.run(1, 0, 255, 255);
        l.x.machine(0, 0, 1, 0);
        l.x.machine(0, 0, 0, 0);
        l.x.machine(4, 0, 1, 0);
        l.score("at 5 use 0; at 5 use 5; at 5 use 6 with 0; at 5 use 7; at 5 use 1; at 5 use 4; at 6 use 5; at 7 use 5;");
        Loft.due("RUN 0", l.x.balls(0, 0), 2);
        Loft.due("RUN 1", l.x.balls(1, 0), 3);
        l.score("at 5 use 4; at 5 use 3; at 5 use 2; at 5 use 1;");
        Loft.due("no HEAD", l.x.balls(0, 0), 0);
    }

    /** "by its FALL with GATES as they stand at first": what the SCORE turns does not count. */
    private static void ballsByGatesAtFirst() {
        Loft l = new Loft();
        l.x.board(1, 8, 0, 0, 0);
        l.x.board(1, 0, 0, 0, 0);
        l.run(0, 0, 1, 255, 0, 255, 255);
        l.x.machine(0, 0, 0, 0);
        l.x.machine(4, 0, 0, 0);
        l.score("at 0 use 1; at 1 use 0; at 5 use 0; at 6 use 0;");
        Loft.due("end with GATE 0", l.x.fall(0, 0, 0), 6);
        Loft.due("end with GATE 1", l.x.fall(0, 1, 0), 4);
        Loft.due("BALLS", l.x.balls(0, 0), 3);
        Loft.due("the latest fall stays", l.x.fall(0, 1, 1), 0);
        l.run(0, 0, 255, 255);
        Loft.due("of the RUN as it is", l.x.balls(0, 0), 2);
    }

    // ---- FILLINGS

    private static Loft barrel(int turns, int takes) {
        Loft l = new Loft();
        l.x.machine(1, 0, turns, takes);
        l.x.machine(3, 0, 0, 0);
        l.x.machine(1, 0, turns, takes);
        return l;
    }

    private static void filled(Loft l, String score, int fillings) {
        l.score(score);
        Loft.due("fillings of " + score, l.x.fillings(0), fillings);
    }

    /** "NONE: no such BARREL". */
    private static void numbersOfFillings() {
        Loft l = loft(0);
        for (int m = -2; m <= 13; m++) {
            Loft.due("fillings(" + m + ")", l.x.fillings(m), m == 1 ? 0 : -1);
        }
        for (int far : FAR) {
            Loft.due("fillings(" + far + ")", l.x.fillings(far), -1);
        }
        for (int m = 5; m < 12; m++) {
            Loft.due("not yet", l.x.fillings(m), -1);
            l.x.machine(1, 0, 1, 1);
            Loft.due("now", l.x.fillings(m), 0);
        }
    }

    /** "(full at first)": as many turns as it holds, and one more; "(all of them when it begins)". */
    private static void fullAtFirst() {
        int[] sizes = {1, 2, 10, 98, 99};
        for (int holds : sizes) {
            Loft l = barrel(holds, 1);
            filled(l, "", 0);
            filled(l, "at 0 use 0 with " + holds + ";", 0);
            filled(l, "at 2000 use 0 with " + holds + ";", 0);
            if (holds < 99) {
                filled(l, "at 0 use 0 with " + (holds + 1) + ";", -2);
                filled(l, "at 2000 use 0 with " + (holds + 1) + ";", -2);
            }
            filled(l, "at 0 use 2 with 99; at 0 use 1 with 99;", 0);
            filled(l, "at 0 use 0 with 1;".repeat(Math.min(holds, 24)), 0);
            if (holds < 24) {
                filled(l, "at 0 use 0 with 1;".repeat(holds + 1), -2);
            }
        }
    }

    /** "a filling takes 1 to 200 TICKS": "from the end of an EVENT .. to the beginning of a later one". */
    private static void fillingFits() {
        int[] takes = {1, 2, 199, 200};
        for (int t : takes) {
            Loft l = barrel(10, t);
            for (int late = -1; late <= 1; late++) {
                int next = 100 + 40 + t + late;
                filled(l, "at 100 use 0 with 10; at " + next + " use 0 with 1;", late >= 0 ? 1 : -2);
                filled(l, "at 100 use 0 with 10; at " + next + " use 0 with 10;", late >= 0 ? 1 : -2);
                filled(l, "at 100 use 0 with 10; at " + next + " use 0 with 11;", -2);
                filled(l, "at 100 use 0 with 9; at " + (next - 4) + " use 0 with 1;", 0);
                filled(l, "at 100 use 0 with 9; at " + (next - 4) + " use 0 with 2;", late >= 0 ? 1 : -2);
            }
        }
    }

    /** "(or from TICK 0)": ahead of the first EVENT a filling changes nothing, since the BARREL is full. */
    private static void fillingFromTickNothing() {
        Loft l = barrel(10, 8);
        for (int first = 6; first <= 10; first++) {
            filled(l, "at " + first + " use 0 with 10;", 0);
            filled(l, "at " + first + " use 0 with 6; at " + first + " use 0 with 5;", -2);
            filled(l, "at " + first + " use 0 with 6; at " + first + " use 0 with 4;", 0);
        }
    }

    /** "each while it is not turned": of EVENTS that go on at once the last end counts. */
    private static void notWhileItIsTurned() {
        Loft l = barrel(10, 8);
        filled(l, "at 0 use 0 with 9; at 33 use 0 with 1; at 45 use 0 with 1;", 1);
        filled(l, "at 0 use 0 with 9; at 33 use 0 with 1; at 44 use 0 with 1;", -2);
        filled(l, "at 0 use 0 with 9; at 10 use 0 with 1; at 44 use 0 with 1;", 1);
        filled(l, "at 0 use 0 with 9; at 10 use 0 with 1; at 43 use 0 with 1;", -2);
        filled(l, "at 0 use 0 with 5; at 28 use 0 with 5; at 55 use 0 with 1;", 1);
        filled(l, "at 0 use 0 with 5; at 27 use 0 with 5; at 55 use 0 with 1;", 1);
        filled(l, "at 0 use 0 with 5; at 27 use 0 with 5; at 54 use 0 with 1;", -2);
        filled(l, "at 0 use 2 with 99; at 0 use 0 with 10; at 48 use 0 with 1;", 1);
        filled(l, "at 40 use 2 with 99; at 0 use 0 with 10; at 48 use 0 with 1;", 1);
    }

    /** "it is full behind each": what was left in it does not come on top. */
    private static void fullBehindEach() {
        Loft l = barrel(10, 1);
        filled(l, "at 0 use 0 with 1; at 100 use 0 with 9; at 101 use 0 with 1;", 1);
        filled(l, "at 0 use 0 with 1; at 100 use 0 with 9; at 101 use 0 with 2;", -2);
        filled(l, "at 0 use 0 with 1; at 100 use 0 with 10; at 101 use 0 with 1;", -2);
        filled(l, "at 0 use 0 with 10; at 100 use 0 with 10; at 200 use 0 with 10;", 2);
        filled(l, "times 20 every 200 at 0 use 0 with 10; end", 19);
        filled(l, "times 20 every 200 at 0 use 0 with 5; end", 9);
    }

    /** "the fewest": the last chance that is left is taken, and none ahead of need. */
    private static void fewestFillings() {
        Loft l = barrel(10, 8);
        filled(l, "at 0 use 0 with 4; at 100 use 0 with 4; at 200 use 0 with 4; at 300 use 0 with 4; at 400 use 0 with 4;", 2);
        filled(l, "at 0 use 0 with 5; at 100 use 0 with 5; at 200 use 0 with 5; at 300 use 0 with 5;", 1);
        filled(l, "at 0 use 0 with 5; at 100 use 0 with 5; at 123 use 0 with 5; at 143 use 0 with 1;", -2);
        filled(l, "at 0 use 0 with 5; at 100 use 0 with 5; at 123 use 0 with 5; at 151 use 0 with 1;", 2);
        filled(l, "at 0 use 0 with 5; at 100 use 0 with 4; at 117 use 0 with 6;", 1);
        filled(l, "at 0 use 0 with 5; at 100 use 0 with 4; at 117 use 0 with 7;", -2);
        filled(l, "at 0 use 0 with 5; at 100 use 0 with 4; at 124 use 0 with 7;", 1);
    }
}
