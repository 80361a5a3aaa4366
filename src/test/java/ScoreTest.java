/** Promises 10 to 12: SCORES, their FAULTS, and EVENTS. */
final class ScoreTest {
    private static Loft loft() {
        Loft l = new Loft();
        l.x.board(1, 8, 0, 0, 0);
        l.run(0, 0, 255, 255);
        l.x.machine(0, 0, 0, 0);
        l.x.machine(1, 0, 9, 9);
        l.x.machine(2, 0, 0, 0);
        l.x.machine(3, 0, 0, 0);
        l.x.machine(4, 0, 0, 0);
        return l;
    }

    public static void main(String[] args) {
        tokens();
        grammar();
        numbers();
        names();
        times();
        tooLong();
        tooMany();
        order();
        stays();
        events();
        Loft.close();
    }

    private static void tokens() {
        Loft l = loft();
        l.scored("", 0, 0);
        l.scored(" \n \n", 0, 0);
        l.scored("at 1 use 2;at 1 use 2;", 2, 0);
        l.scored("at\n1\nuse\n2\n;\n", 1, 0);
        l.scored("at5 use 2;", -1, 1);
        l.scored("at 5use 2;", -4, 1);
        l.scored("At 5 use 2;", -1, 1);
        l.scored("aT 5 use 2;", -1, 1);
        l.scored("at\t5 use 2;", -3, 1);
        l.scored("at 00005 use 2;", -4, 1);
        l.scored("at 0005 use 2;", 1, 0);
        l.scored("at 5 use 2.", -11, 1);
        l.scored("at 5 use 2;.", -12, 1);
        l.scored("at 5 use 2;" + (char) 0, -12, 1);
        l.scored("at 5 use 2;" + (char) 225, -12, 1);
        l.scored("storm abcdefgh end", 0, 0);
        l.scored("storm az end storm zoo end play zoo at 0;", 0, 0);
        l.scored("storm a\nend play a at 0;", 0, 0);
        l.scored("storm a` end", -8, 1);
        l.scored("storm a{ end", -8, 1);
        l.scored("at 0/ use 2;", -5, 1);
        l.scored("at 0: use 2;", -5, 1);
        l.scored("storm abcdefghi end", -7, 1);
    }

    private static void grammar() {
        Loft l = loft();
        l.scored(";", -1, 1);
        l.scored("5", -1, 1);
        l.scored("foo", -1, 1);
        l.scored("use 5;", -1, 1);
        l.scored("at", -3, 1);
        l.scored("at ", -4, 1);
        l.scored("at ;", -4, 1);
        l.scored("at 5", -5, 1);
        l.scored("at 5 with", -6, 1);
        l.scored("at 5 use", -9, 1);
        l.scored("at 5 use x", -10, 1);
        l.scored("at 5 use 2", -11, 1);
        l.scored("at 5 use 2 at", -12, 1);
        l.scored("at 5 use 2 with", -16, 1);
        l.scored("at 5 use 2 with;", -16, 1);
        l.scored("at 5 use 2 with 7", -18, 1);
        l.scored("at 5 use 2 with 7 7;", -19, 1);
        l.scored("at 5 use 2 with 7;", 1, 0);
        l.scored("end", -1, 1);
        l.scored("at 5 use 2; end", -13, 1);
        l.scored("times every", -7, 1);
        l.scored("times 2 at", -9, 1);
        l.scored("times 2 every", -14, 1);
        l.scored("times 2 every 5", -16, 1);
        l.scored("times 2 every 5 storm a end end", -17, 1);
        l.scored("storm a storm b end end", -9, 1);
        l.scored("storm a times 1 every 1 end", -28, 1);
        l.scored("storm a times 1 every 1 end end", 0, 0);
        l.scored("storm a end end", -13, 1);
        l.scored("storm a end play a 5;", -20, 1);
        l.scored("storm a end play a at 5", -24, 1);
        l.scored("storm a end play a at 5;", 0, 0);
        l.scored("play", -5, 1);
        l.scored("play 5", -6, 1);
    }

    private static void numbers() {
        Loft l = loft();
        l.scored("at 2000 use 2;", 1, 0);
        l.scored("at 2001 use 2;", -4, 2);
        l.scored("at 9999 foo", -4, 2);
        l.scored("at 0 use 4;", 1, 0);
        l.scored("at 0 use 5;", -10, 2);
        l.scored("at 0 use 5 with 0;", -10, 2);
        int[] least = {0, 1, 1, 1, 0};
        int[] most = {9999, 99, 500, 99, 1};
        for (int m = 0; m < 5; m++) {
            String use = "at 0 use " + m + " with ";
            l.scored(use + least[m] + ";", 1, 0);
            l.scored(use + most[m] + ";", 1, 0);
            if (least[m] > 0) {
                l.scored(use + (least[m] - 1) + ";", -17, 2);
            }
            l.scored(use + (most[m] + 1) + ";", -17, m == 0 ? 1 : 2);
        }
        l.scored("times 0 every 1 end", -7, 2);
        l.scored("times 21 every 1 end", -7, 2);
        l.scored("times 20 every 0 end", -16, 2);
        l.scored("times 20 every 2001 end", -16, 2);
        l.scored("times 20 every 2000 end", 0, 0);
        l.scored("storm a end play a at 2001;", -23, 2);
        l.scored("storm a end play a at 2000;", 0, 0);
        Loft bare = new Loft();
        bare.scored("at 0 use 0;", -10, 2);
        bare.scored("storm a at 0 use 0; end", -18, 2);
    }

    private static void names() {
        Loft l = loft();
        for (String word : new String[] {"storm", "end", "at", "use", "with", "times", "every", "play"}) {
            l.scored("storm " + word + " end", -7, 1);
            l.scored("play " + word + " at 0;", -6, 1);
            l.scored("storm " + word.substring(1) + "x end play " + word.substring(1) + "x at 0;", 0, 0);
        }
        l.scored("play a at 0;", -6, 3);
        l.scored("storm a end storm a end", -19, 3);
        l.scored("storm a end storm ab end", 0, 0);
        l.scored("storm a play a at 0; end", -14, 3);
        l.scored("play a at 0; storm a end", -6, 3);
        l.scored("storm a end play ab at 0;", -18, 3);
        StringBuilder eight = new StringBuilder();
        for (int s = 0; s < 8; s++) {
            eight.append("storm ").append((char) ('a' + s)).append(" end ");
        }
        l.scored(eight.toString(), 0, 0);
        l.scored(eight + "storm i end", -97, 3);
        l.scored(eight + "storm a end", -97, 3);
        l.scored(eight + "storm 5", -97, 3);
        l.scored(eight + "times 1 every 1 storm", -113, 1);
    }

    private static void times() {
        Loft l = loft();
        String four = "times 1 every 1 times 1 every 1 times 1 every 1 times 1 every 1 ";
        l.scored(four + "at 1 use 2; end end end end", 1, 0);
        l.scored(four + "times 1 every 1 end end end end end", -65, 3);
        l.scored(four + "times foo", -65, 3);
        l.scored(four + "end times 1 every 1 end end end end", 0, 0);
        l.scored("storm a " + four + "at 1 use 2; end end end end end " + four + "play a at 1; end end end end", 1, 0);
        l.scored("storm a " + four + "times 1", -73, 3);
        l.scored("times 3 every 10 at 1 use 2; times 2 every 3 at 2 use 3; end end", 9, 0);
        int[] ticks = {1, 2, 5, 11, 12, 15, 21, 22, 25};
        for (int e = 0; e < 9; e++) {
            Loft.due("TICK of EVENT " + e, l.event(e, 0), ticks[e]);
            Loft.due("MACHINE of EVENT " + e, l.event(e, 1), e % 3 == 0 ? 2 : 3);
        }
        l.scored("storm a at 5 use 2; end storm b times 2 every 100 play a at 7; end end play b at 1000;", 2, 0);
        Loft.due("played in a play", l.event(1, 0), 1112);
    }

    private static String filled(String text, int size) {
        StringBuilder s = new StringBuilder(text);
        while (s.length() < size) {
            s.append(' ');
        }
        return s.toString();
    }

    private static void tooLong() {
        Loft l = loft();
        l.scored(filled("at 0 use 2;", 600), 1, 0);
        l.scored(filled("at 0 use 2;", 601), -601, 1);
        l.scored(filled("at 0 use 2;", 640), -601, 1);
        l.scored(filled("", 589) + "at 0 use 2;", 1, 0);
        l.scored(filled("", 590) + "at 0 use 2;", -601, 1);
        l.scored(filled("", 589) + "at 0 use 2", -600, 1);
        l.scored(filled("", 592) + "at 0 use 2", -601, 1);
        l = loft();
        l.scored(filled("", 596) + "atatatatatat", -597, 1);
        l.scored(filled("", 594) + "storm end", -601, 1);
        l.scored(filled("", 595) + "storm ends end", -601, 1);
        l.scored(filled("", 589) + "storm abcdefg", -601, 1);
        l.scored(filled("", 593) + "storm abcdefghijk", -600, 1);
        l.scored(filled("", 592) + "play abcdefgh", -598, 3);
        l.scored(filled("", 596) + "at 99999", -600, 1);
        l.scored(filled("", 596) + "at 9999", -600, 2);
        l.scored(filled("foo", 640), -1, 1);
        l.scored(filled("times 20 every 1 times 20 every 1 at 0 use 2; end end", 620), -601, 1);
    }

    private static void tooMany() {
        Loft l = loft();
        l.scored("times 12 every 1 at 0 use 2; at 0 use 2; end", 24, 0);
        l.scored("times 12 every 1 at 0 use 2; at 0 use 2; end at 1 use 2;", -57, 4);
        l.scored("times 13 every 1 at 0 use 2; at 0 use 2; end \n", -47, 4);
        l.scored("times 3 every 2000 at 0 use 2; end", 3, 0);
        l.scored("times 3 every 2000 at 1 use 2; end", -35, 4);
        l.scored("times 3 every 2000 at 1 use 2; end ;", -36, 1);
        l.scored("storm a times 20 every 2000 at 1 use 2; at 1 use 2; end end", 0, 0);
        l.scored("storm a times 3 every 2000 at 1 use 2; end end play a at 0;", -60, 4);
        l.scored("storm a times 13 every 1 at 1 use 2; end end play a at 0; play a at 0;", -71, 4);
        l.scored("storm a times 12 every 1 at 1 use 2; end end play a at 0; play a at 0;", 24, 0);
        l.scored("storm a times 20 every 1 at 1 use 2; at 1 use 2; end end storm b play a at 0; end", 0, 0);
        l.scored("storm a times 20 every 1 at 1 use 2; at 1 use 2; end end storm b play a at 0; end play b at 0;", -95, 4);
        l.scored("storm a at 2000 use 2; end storm b play a at 2000; end play b at 0;", 1, 0);
        l.scored("storm a at 2000 use 2; end storm b play a at 2000; end play b at 1;", -68, 4);
        StringBuilder deep = new StringBuilder("storm a end ");
        for (int s = 1; s < 8; s++) {
            deep.append("storm ").append((char) ('a' + s)).append(" times 20 every 2000 times 20 every 2000 play ");
            deep.append((char) ('a' + s - 1)).append(" at 2000; end end end ");
        }
        l.scored(deep.toString(), 0, 0);
        l.scored(deep.toString().replace("storm a ", "storm a at 0 use 2; "), 0, 0);
        String played = deep.substring(0, deep.indexOf("storm g")) + "play f at 0;";
        l.scored(played, 0, 0);
        String more = played.replace("storm a ", "storm a at 0 use 2; ");
        l.scored(more, -1 - more.length(), 4);
    }

    private static void order() {
        Loft l = loft();
        l.scored("at 7 use 3 with 1; at 5 use 3 with 2; at 7 use 3 with 3; at 5 use 3 with 4; at 0 use 3 with 5;", 5, 0);
        int[] numbers = {5, 2, 4, 1, 3};
        for (int e = 0; e < 5; e++) {
            Loft.due("NUMBER of EVENT " + e, l.event(e, 2), numbers[e]);
        }
        l.scored("times 2 every 5 at 5 use 3 with 1; at 0 use 3 with 2; end at 5 use 3 with 3;", 5, 0);
        int[] again = {2, 1, 2, 3, 1};
        for (int e = 0; e < 5; e++) {
            Loft.due("NUMBER of EVENT " + e + " again", l.event(e, 2), again[e]);
        }
    }

    private static void stays() {
        Loft l = loft();
        l.scored("at 3 use 3 with 8; at 4 use 2;", 2, 0);
        l.scored("at 3 use", -9, 1);
        Loft.due("empty with a FAULT", l.x.count(5), 0);
        Loft.due("the SCORE stays", l.x.count(4), 2);
        Loft.due("its EVENT stays", l.event(0, 2), 8);
        Loft.due("fault again", l.x.fault(), 1);
        l.x.night();
        Loft.due("fault of the latest score", l.x.fault(), 1);
        l.scored("", 0, 0);
        Loft.due("no EVENTS", l.x.count(4), 0);
        Loft.due("no EVENT 0", l.event(0, 0), Loft.THROWN);
    }

    private static void events() {
        Loft l = loft();
        l.scored("at 1 use 0 with 9999; at 2 use 1 with 7; at 3 use 2 with 500; at 4 use 3 with 99; at 5 use 4 with 0; "
            + "at 6 use 2;", 6, 0);
        int[][] want = {{1, 0, 9999, 1, 1}, {2, 1, 7, 28, 7}, {3, 2, 500, 500, 500}, {4, 3, 99, 1, 99}, {5, 4, 0, 1, 1},
            {6, 2, 1, 1, 1}};
        for (int e = 0; e < 6; e++) {
            for (int what = 0; what < 5; what++) {
                Loft.due("event(" + e + ", " + what + ")", l.event(e, what), want[e][what]);
            }
        }
        Loft.due("event(6, 0)", l.event(6, 0), Loft.THROWN);
        Loft.due("event(-1, 0)", l.event(-1, 0), Loft.THROWN);
        Loft.due("event(0, 5)", l.event(0, 5), Loft.THROWN);
        Loft.due("event(0, -1)", l.event(0, -1), Loft.THROWN);
    }
}
