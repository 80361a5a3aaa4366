/** The boundary cases of promises 8 to 12: MACHINES, MEN, SCORES, their FAULTS, and EVENTS. */
final class EdgeScoreTest {
    private static final int[] FAR = {Integer.MIN_VALUE, -65536, -256, -1, 256, 65536, Integer.MAX_VALUE};
    private static final int[] LEAST = {0, 1, 1, 1, 0};
    private static final int[] MOST = {9999, 99, 500, 99, 1};
    private static final String[] WORDS = {"storm", "end", "at", "use", "with", "times", "every", "play"};

    public static void main(String[] args) {
        machineNumbers();
        machineReasons();
        twelveMachines();
        men();
        signs();
        wordLengths();
        numberLengths();
        noTokens();
        names();
        brokenOff();
        places();
        numberOfAt();
        numberOfUse();
        numberOfWith();
        numbersOfTimes();
        numberOfPlay();
        namesTold();
        eightStorms();
        fourTimes();
        sixHundredBytes();
        readWhole();
        firstFault();
        twentyFourEvents();
        tick4000();
        neverPlayed();
        order();
        scoreStays();
        faultOfLatest();
        eventNumbers();
        eventTakes();
        Loft.close();
    }

    /** A HEAD, a BARREL, a DRUM, a SHEET and a GATE, as MACHINES 0 to 4. */
    private static Loft loft() {
        Loft l = new Loft();
        l.x.board(1, 8, 0, 0, 0);
        l.run(0, 0, 255, 255);
        l.x.machine(0, 0, 0, 0);
        l.x.machine(1, 0, 9, 9);
        l.x.machine(2, 0, 0, 0);
        l.x.machine(3, 0, 0, 0);
        l.x.machine(4, 0, 0, 0);
        return l;
    }

    private static String blanks(int n) {
        return " ".repeat(n);
    }

    // ---- MACHINES and MEN

    private static int machine(int kind, int x, int a, int b) {
        Loft l = new Loft();
        l.x.board(1, 8, 0, 0, 0);
        l.run(1, 0, 1, 1, 0, 255, 255);
        l.run(3, 0, 255, 255);
        int number = l.x.machine(kind, x, a, b);
        Loft.due("MACHINES then", l.x.count(2), number == 0 ? 1 : 0);
        return number;
    }

    /** "2 no such kind, or x; 3 a is no RUN (0, 4), b no PLACE of it (4), a not 1 to 99 or b not 1 to 200 (1)". */
    private static void machineNumbers() {
        for (int kind = -2; kind <= 7; kind++) {
            Loft.due("kind " + kind, machine(kind, 0, 1, 1), kind >= 0 && kind <= 4 ? 0 : -3);
        }
        for (int kind = 0; kind <= 4; kind++) {
            for (int x = -2; x <= 101; x++) {
                Loft.due("x " + x, machine(kind, x, 1, 1), x >= 0 && x <= 99 ? 0 : -3);
            }
        }
        for (int a = -2; a <= 101; a++) {
            Loft.due("HEAD of " + a, machine(0, 0, a, a), a == 1 || a == 3 ? 0 : -4);
            Loft.due("GATE of " + a, machine(4, 0, a, 0), a == 1 || a == 3 ? 0 : -4);
            Loft.due("GATE of PLACE " + a, machine(4, 0, 1, a), a == 0 || a == 1 ? 0 : -4);
            Loft.due("GATE of PLACE " + a + " of one", machine(4, 0, 3, a), a == 0 ? 0 : -4);
            Loft.due("BARREL of " + a, machine(1, 0, a, 1), a >= 1 && a <= 99 ? 0 : -4);
            Loft.due("DRUM of any", machine(2, 0, a, -a), 0);
            Loft.due("SHEET of any", machine(3, 0, -a, a), 0);
        }
        for (int b = -2; b <= 202; b++) {
            Loft.due("BARREL filled in " + b, machine(1, 0, 1, b), b >= 1 && b <= 200 ? 0 : -4);
        }
        for (int far : FAR) {
            Loft.due("kind " + far, machine(far, 0, 1, 1), -3);
            Loft.due("x " + far, machine(3, far, 1, 1), -3);
            Loft.due("HEAD of " + far, machine(0, 0, far, 0), -4);
            Loft.due("HEAD, b " + far, machine(0, 0, 1, far), 0);
            Loft.due("BARREL of " + far, machine(1, 0, far, 1), -4);
            Loft.due("BARREL filled in " + far, machine(1, 0, 1, far), -4);
            Loft.due("DRUM of " + far, machine(2, 0, far, far), 0);
            Loft.due("SHEET of " + far, machine(3, 0, far, far), 0);
            Loft.due("GATE of " + far, machine(4, 0, far, 0), -4);
            Loft.due("GATE of PLACE " + far, machine(4, 0, 1, far), -4);
        }
    }

    /** "-1 less why not, the first of: 1 there are 12; 2 no such kind, or x; 3 ..". */
    private static void machineReasons() {
        Loft.due("kind ahead of a", machine(5, 0, 7, 7), -3);
        Loft.due("x ahead of a", machine(0, 100, 7, 7), -3);
        Loft.due("x ahead of b", machine(1, -1, 7, 0), -3);
        Loft l = loft();
        for (int i = 5; i < 12; i++) {
            l.x.machine(3, 0, 0, 0);
        }
        Loft.due("twelve ahead of kind", l.x.machine(5, 0, 0, 0), -2);
        Loft.due("twelve ahead of x", l.x.machine(3, 100, 0, 0), -2);
        Loft.due("twelve ahead of a", l.x.machine(0, 0, 1, 0), -2);
        Loft.due("twelve", l.x.machine(3, 0, 0, 0), -2);
        Loft.due("MACHINES", l.x.count(2), 12);
    }

    /** "MACHINES 0 .. 11". */
    private static void twelveMachines() {
        Loft l = new Loft();
        for (int i = 0; i < 12; i++) {
            Loft.due("not one", l.x.machine(5, 0, 0, 0), -3);
            l.scored("at 0 use " + i + ";", -10, 2);
            Loft.due("machine " + i, l.x.machine(3, i, 0, 0), i);
            Loft.due("MACHINES", l.x.count(2), i + 1);
            l.scored("at 0 use " + i + ";", 1, 0);
            Loft.due("MACHINE of it", l.event(0, 1), i);
        }
        Loft.due("a thirteenth", l.x.machine(3, 0, 0, 0), -2);
        l.scored("at 0 use 12;", -10, 2);
        l.scored("at 0 use 11;", 1, 0);
    }

    /** "MEN 0 .. 3, each at an x at first": "NONE: there are 4, or no such x." */
    private static void men() {
        for (int x = -2; x <= 101; x++) {
            Loft l = new Loft();
            boolean told = x >= 0 && x <= 99;
            Loft.due("man(" + x + ")", l.x.man(x), told ? 0 : -1);
            Loft.due("MEN", l.x.count(3), told ? 1 : 0);
        }
        Loft l = new Loft();
        for (int far : FAR) {
            Loft.due("man(" + far + ")", l.x.man(far), -1);
        }
        for (int i = 0; i < 4; i++) {
            Loft.due("man(100)", l.x.man(100), -1);
            Loft.due("man " + i, l.x.man(99), i);
        }
        Loft.due("a fifth", l.x.man(0), -1);
        Loft.due("MEN", l.x.count(3), 4);
    }

    // ---- TOKENS

    /** "TOKENS, with blanks (32, 10) between them or not": each of the 256 bytes behind a WORD, and by itself. */
    private static void signs() {
        for (int c = 0; c < 256; c++) {
            Loft l = loft();
            boolean blank = c == 32 || c == 10;
            boolean letter = c >= 'a' && c <= 'z';
            boolean digit = c >= '0' && c <= '9';
            l.scored("at" + (char) c + "1 use 2;", blank ? 1 : letter || digit ? -1 : -3, blank ? 0 : 1);
            l.scored("" + (char) c, blank ? 0 : -1, blank ? 0 : 1);
            l.scored("at 1 use 2;" + (char) c, blank ? 1 : -12, blank ? 0 : 1);
            l.scored("at 1 use 2" + (char) c, c == ';' ? 1 : digit ? -10 : letter ? -10 : blank ? -12 : -11,
                c == ';' ? 0 : digit ? 2 : 1);
        }
    }

    /** "WORDS: small letters, 1 to 8". */
    private static void wordLengths() {
        Loft l = loft();
        for (int n = 1; n <= 12; n++) {
            String name = "abcdefghijkl".substring(0, n);
            l.scored("storm " + name + " end play " + name + " at 0;", n <= 8 ? 0 : -7, n <= 8 ? 0 : 1);
            l.scored("storm " + name + "1 end", -7, 1);
            l.scored("storm 1" + name + " end", -7, 1);
        }
        l.scored("storm abcdefgh end storm abcdefg end storm abcdefgi end", 0, 0);
        l.scored("storm abcdefgh end play abcdefgi at 0;", -25, 3);
    }

    /** "NUMBERS: 1 to 4 digits". */
    private static void numberLengths() {
        Loft l = loft();
        String[] ones = {"1", "01", "001", "0001"};
        for (String one : ones) {
            l.scored("at " + one + " use " + one + " with " + one + ";", 1, 0);
            Loft.due("TICK", l.event(0, 0), 1);
            Loft.due("MACHINE", l.event(0, 1), 1);
            Loft.due("NUMBER", l.event(0, 2), 1);
            l.scored("times " + one + " every " + one + " end", 0, 0);
        }
        l.scored("at 00001 use 1;", -4, 1);
        l.scored("at 1 use 00001;", -10, 1);
        l.scored("at 1 use 1 with 00001;", -17, 1);
        l.scored("times 00001 every 1 end", -7, 1);
        l.scored("times 1 every 00001 end", -15, 1);
        l.scored("at 99999999999999999999 use 1;", -4, 1);
        l.scored("at 4294967296 use 1;", -4, 1);
        l.scored("at 9999 use 1;", -4, 2);
        l.scored("at 1 use 0 with 9999;", 1, 0);
        Loft.due("greatest NUMBER", l.event(0, 2), 9999);
        l.scored("at 1 use 0 with 0000;", 1, 0);
        Loft.due("least NUMBER", l.event(0, 2), 0);
    }

    /** What is no TOKEN is none of those that can come there. */
    private static void noTokens() {
        String[] none = {".", "a1", "1a", "abcdefghi", "12345", "A", "a1b2", ":"};
        for (String n : none) {
            Loft l = loft();
            l.scored(n, -1, 1);
            l.scored("at 1 use 2 " + n, -12, 1);
            l.scored("at 1 use 2 with 3 " + n, -19, 1);
            l.scored("at 1 use 2 with " + n + ";", -17, 1);
            l.scored("at 1 use " + n + ";", -10, 1);
            l.scored("at " + n + " use 2;", -4, 1);
            l.scored("storm " + n + " end", -7, 1);
            l.scored("storm a end play a at 0 " + n, -25, 1);
            l.scored("storm a end play a " + n + " 0;", -20, 1);
            l.scored("storm a " + n + " end", -9, 1);
            l.scored("times " + n + " every 1 end", -7, 1);
            l.scored("times 1 " + n + " 1 end", -9, 1);
            l.scored("times 1 every 1 " + n, -17, 1);
        }
    }

    /** "NAME: a WORD, none of storm, end, at, use, with, times, every, play." */
    private static void names() {
        Loft l = loft();
        for (String word : WORDS) {
            l.scored("storm " + word + " end", -7, 1);
            l.scored("play " + word + " at 0;", -6, 1);
            String shorter = word.substring(0, word.length() - 1);
            String longer = word + "x";
            l.scored("storm " + shorter + " end play " + shorter + " at 0;", 0, 0);
            l.scored("storm " + longer + " end play " + longer + " at 0;", 0, 0);
            l.scored("play " + longer + " at 0;", -6, 3);
        }
        String[] near = {"bt", "tend", "ttorm", "fnd", "vse", "xith", "uimes", "fvery", "qlay", "ay", "ens", "plaz"};
        for (String word : near) {
            l.scored("storm " + word + " end play " + word + " at 0;", 0, 0);
            l.scored(word + " 1 use 2;", -1, 1);
        }
        l.scored("storm ; end", -7, 1);
        l.scored("storm 7 end", -7, 1);
        l.scored("play ; at 0;", -6, 1);
        l.scored("play 7 at 0;", -6, 1);
    }

    // ---- where a FAULT is told

    /** "1 .. one that can't come (at it; the end: how many bytes there are)": a text broken off behind each TOKEN. */
    private static void brokenOff() {
        String[] tokens = "storm a at 1 use 2 with 3 ; end times 2 every 5 play a at 7 ; end at 0 use 4 with 1 ;".split(" ");
        int[] events = {0, 10, 20, 27};
        int[] answers = {0, 0, 2, 3};
        String text = "";
        int stands = 0;
        for (int n = 0; n <= tokens.length; n++) {
            Loft l = loft();
            text = n == 0 ? "" : text + " " + tokens[n - 1];
            boolean whole = stands < events.length && n == events[stands];
            for (String blanks : new String[] {"", " ", "\n\n"}) {
                String part = text + blanks;
                l.scored(part, whole ? answers[stands] : -1 - part.length(), whole ? 0 : 1);
                l.scored(text + ". " + blanks, -1 - text.length(), 1);
            }
            stands += whole ? 1 : 0;
        }
        Loft.due("TOKENS", tokens.length, 27);
    }

    /** The same FAULT, with more and more blanks ahead of it and behind it. */
    private static void places() {
        for (int n = 0; n < 40; n++) {
            Loft l = loft();
            l.scored(blanks(n) + "foo" + blanks(n), -1 - n, 1);
            l.scored("at" + blanks(n), -3 - n, 1);
            l.scored("at" + blanks(n + 1) + "2001" + blanks(n), -4 - n, 2);
            l.scored("play" + blanks(n + 1) + "a" + blanks(n), -6 - n, 3);
            l.scored("times 20 every 1 at 0 use 2; at 0 use 2; end" + blanks(n), -45 - n, 4);
        }
    }

    /** "NUMBERS behind 'at' are 0 to 2000". */
    private static void numberOfAt() {
        Loft l = loft();
        int[] edges = {0, 1, 1999, 2000, 2001, 2002, 4095, 4096, 9999};
        for (int n : edges) {
            l.scored("at " + n + " use 2;", n <= 2000 ? 1 : -4, n <= 2000 ? 0 : 2);
            l.scored("storm a at " + n + " use 2; end", n <= 2000 ? 0 : -12, n <= 2000 ? 0 : 2);
            if (n <= 2000) {
                l.scored("at " + n + " use 2;", 1, 0);
                Loft.due("TICK", l.event(0, 0), n);
            }
        }
    }

    /** "or no MACHINE (at it; ..)". */
    private static void numberOfUse() {
        Loft l = loft();
        for (int m = 0; m <= 9; m++) {
            l.scored("at 0 use " + m + ";", m < 5 ? 1 : -10, m < 5 ? 0 : 2);
            l.scored("at 0 use " + m + " with 1;", m < 5 ? 1 : -10, m < 5 ? 0 : 2);
            l.scored("at 0 use " + m, m < 5 ? -11 : -10, m < 5 ? 1 : 2);
            l.scored("at 0 use " + m + " with 9999;", m == 0 ? 1 : m < 5 ? -17 : -10, m == 0 ? 0 : 2);
        }
        l.scored("at 0 use 9999;", -10, 2);
        l.scored("storm a at 0 use 5; end", -18, 2);
    }

    /** "of a HEAD any, a BARREL its turns (1 to 99), a DRUM how long (1 to 500), a SHEET how strong (1 to 99), a GATE 0 or 1". */
    private static void numberOfWith() {
        for (int m = 0; m < 5; m++) {
            Loft l = loft();
            int[] edges = {0, 1, 2, 98, 99, 100, 101, 499, 500, 501, 9998, 9999};
            for (int n : edges) {
                boolean told = n >= LEAST[m] && n <= MOST[m];
                l.scored("at 0 use " + m + " with " + n + ";", told ? 1 : -17, told ? 0 : 2);
                if (told) {
                    Loft.due("its NUMBER", l.event(0, 2), n);
                }
            }
            l.scored("at 0 use " + m + ";", 1, 0);
            Loft.due("1 without it", l.event(0, 2), 1);
        }
    }

    /** "times (1 to 20)", "every: 1 to 2000". */
    private static void numbersOfTimes() {
        Loft l = loft();
        for (int n = 0; n <= 23; n++) {
            boolean told = n >= 1 && n <= 20;
            l.scored("times " + n + " every 1 at 0 use 2; end", told ? n : -7, told ? 0 : 2);
        }
        l.scored("times 9999 every 1 end", -7, 2);
        int[] edges = {0, 1, 2, 1999, 2000, 2001, 9999};
        for (int n : edges) {
            boolean told = n >= 1 && n <= 2000;
            l.scored("times 2 every " + n + " at 7 use 2; end", told ? 2 : -15, told ? 0 : 2);
            if (told) {
                Loft.due("the first time", l.event(0, 0), 7);
                Loft.due("the second time", l.event(1, 0), 7 + n);
            }
        }
        l.scored("times 1 every 2000 at 7 use 2; end", 1, 0);
        Loft.due("once", l.event(0, 0), 7);
        l.scored("times 20 every 2000 end", 0, 0);
    }

    private static void numberOfPlay() {
        Loft l = loft();
        int[] edges = {0, 1, 1999, 2000, 2001, 9999};
        for (int n : edges) {
            boolean told = n <= 2000;
            l.scored("storm a at 3 use 2; end play a at " + n + ";", told ? 1 : -35, told ? 0 : 2);
            if (told) {
                Loft.due("so many later", l.event(0, 0), 3 + n);
            }
        }
    }

    // ---- NAMES, storms, times

    /** "A storm is played only behind its end; NAMES are told once". */
    private static void namesTold() {
        Loft l = loft();
        l.scored("storm a at 0 use 2; end play a at 0;", 1, 0);
        l.scored("play a at 0; storm a at 0 use 2; end", -6, 3);
        l.scored("storm a at 0 use 2; play a at 0; end", -26, 3);
        l.scored("storm a play b at 0; end storm b end", -14, 3);
        l.scored("storm b end storm a play b at 0; end", 0, 0);
        l.scored("storm a times 1 every 1 play a at 0; end end", -30, 3);
        l.scored("storm a end storm a end", -19, 3);
        l.scored("storm a end storm b end storm a end", -31, 3);
        l.scored("storm a end storm b end storm b end", -31, 3);
        l.scored("storm a end storm b end storm c end", 0, 0);
        l.scored("storm a end play a at 0; play a at 0;", 0, 0);
        l.scored("storm a end", 0, 0);
        l.scored("play a at 0;", -6, 3);
    }

    private static String storms(int n) {
        StringBuilder s = new StringBuilder();
        for (int i = 0; i < n; i++) {
            s.append("storm ").append((char) ('a' + i)).append(" at ").append(i).append(" use 2; end ");
        }
        return s.toString();
    }

    /** "8 storms at most": "a ninth storm (at 'storm')". */
    private static void eightStorms() {
        Loft l = loft();
        for (int n = 1; n <= 12; n++) {
            String text = storms(n);
            l.scored(text, n <= 8 ? 0 : -1 - storms(8).length(), n <= 8 ? 0 : 3);
            if (n <= 8) {
                l.scored(text + "play " + (char) ('a' + n - 1) + " at 0; play a at 0;", 2, 0);
                Loft.due("of the last one", l.event(1, 0), n - 1);
            }
        }
        l.scored(storms(8) + "storm a end", -1 - storms(8).length(), 3);
        l.scored(storms(8) + "storm", -1 - storms(8).length(), 3);
        l.scored(storms(7) + "storm", -6 - storms(7).length(), 1);
    }

    /** "times .. within one another 4 at most (a storm that is played does not count)": "a fifth times (at 'times')". */
    private static void fourTimes() {
        Loft l = loft();
        for (int n = 1; n <= 7; n++) {
            String open = "times 1 every 1 ".repeat(n);
            String text = open + "at 0 use 2; " + "end ".repeat(n);
            l.scored(text, n <= 4 ? 1 : -65, n <= 4 ? 0 : 3);
            l.scored("storm a " + text + "end play a at 0;", n <= 4 ? 1 : -73, n <= 4 ? 0 : 3);
            l.scored("storm a " + "times 1 every 1 ".repeat(4) + "at 0 use 2; end end end end end " + open
                + "play a at 0; " + "end ".repeat(n), n <= 4 ? 1 : -169, n <= 4 ? 0 : 3);
        }
        String four = "times 1 every 1 ".repeat(4);
        l.scored(four + "end times 1 every 1 at 0 use 2; end end end end", 1, 0);
        l.scored(four + "end end end end " + four + "at 0 use 2; end end end end", 1, 0);
        l.scored(four + "end end end end end", -81, 1);
        l.scored(four + "end end end", -76, 1);
    }

    // ---- too long

    /** "A SCORE is a text of at most 600 bytes": "600, if there are more and no FAULT is ahead". */
    private static void sixHundredBytes() {
        for (int n = 595; n <= 640; n++) {
            Loft l = loft();
            l.scored("at 0 use 2;" + blanks(n - 11), n <= 600 ? 1 : -601, n <= 600 ? 0 : 1);
            l.scored(blanks(n - 11) + "at 0 use 2;", n <= 600 ? 1 : -601, n <= 600 ? 0 : 1);
            l.scored(blanks(n), n <= 600 ? 0 : -601, n <= 600 ? 0 : 1);
            l.scored(blanks(n - 1) + ".", n <= 600 ? -n : -601, 1);
            l.scored(blanks(n - 1) + ";", n <= 600 ? -n : -601, 1);
            l.scored("at 2001" + blanks(n - 7), -4, 2);
            l.scored("play a" + blanks(n - 6), -6, 3);
            l.scored("at 0 use 2" + blanks(n - 10), n <= 600 ? -1 - n : -601, 1);
            l.scored("times 20 every 1 at 0 use 2; at 0 use 2; end" + blanks(n - 44), n <= 600 ? -1 - n : -601,
                n <= 600 ? 4 : 1);
        }
    }

    /** "TOKENS that begin ahead of it are read whole": each TOKEN's begin from 590 to 603. */
    private static void readWhole() {
        for (int at = 590; at <= 603; at++) {
            Loft l = loft();
            boolean ahead = at < 600;
            l.scored(blanks(at) + "abcdefghi", ahead ? -1 - at : -601, 1);
            l.scored(blanks(at - 6) + "storm abcdefghi", ahead ? -1 - at : -601, 1);
            l.scored(blanks(at - 6) + "storm abcdefgh", ahead && at + 8 <= 600 ? -1 - at - 8 : -601, 1);
            l.scored(blanks(at - 5) + "play abcdefgh", ahead ? -1 - at : -601, ahead ? 3 : 1);
            l.scored(blanks(at - 3) + "at 12345", ahead ? -1 - at : -601, 1);
            l.scored(blanks(at - 3) + "at 2001", ahead ? -1 - at : -601, ahead ? 2 : 1);
            l.scored(blanks(at - 3) + "at 2000", ahead && at + 4 <= 600 ? -1 - at - 4 : -601, 1);
            l.scored(blanks(at - 16) + "at 0 use 3 with 100;", ahead ? -1 - at : -601, ahead ? 2 : 1);
        }
    }

    /** "FAULTS, the first along the text, of one TOKEN the least". */
    private static void firstFault() {
        Loft l = loft();
        l.scored("at 2001 use 9;", -4, 2);
        l.scored("at 2000 use 9 with 9;", -13, 2);
        l.scored("at 2001 foo", -4, 2);
        l.scored("at 1 foo 2001", -6, 1);
        l.scored("play a foo", -6, 3);
        l.scored("play a at 2001;", -6, 3);
        l.scored("storm a end play a at 2001 foo", -23, 2);
        l.scored("storm a storm b", -9, 1);
        l.scored(storms(8) + "times 1 every 1 storm", -1 - storms(8).length() - 16, 1);
        l.scored(storms(7) + "storm h storm i", -1 - storms(7).length() - 8, 1);
        l.scored("times 1 every 1 times 1 every 1 times 1 every 1 times 1 every 1 at times", -68, 1);
        l.scored("times 20 every 1 at 0 use 2; at 0 use 2; end foo", -46, 1);
        l.scored("times 20 every 1 at 0 use 2; at 0 use 2; end play a", -51, 3);
    }

    // ---- too many, too late

    /** "Else 4: more than 24 EVENTS .. (at the last byte's place and 1: how many bytes there are)". */
    private static void twentyFourEvents() {
        Loft l = loft();
        for (int n = 1; n <= 27; n++) {
            l = n % 9 == 0 ? loft() : l;
            String text = "at 0 use 2;".repeat(n);
            l.scored(text, n <= 24 ? n : -1 - text.length(), n <= 24 ? 0 : 4);
            Loft.due("fault", l.x.fault(), n <= 24 ? 0 : 4);
        }
        for (int n = 1; n <= 5; n++) {
            l = loft();
            for (int times = 1; times <= 20; times++) {
                String text = "times " + times + " every 1 " + "at 0 use 2;".repeat(n) + "end";
                boolean few = n * times <= 24;
                l.scored(text, few ? n * times : -1 - text.length(), few ? 0 : 4);
                text = "storm a times " + times + " every 1 at 0 use 2; end end " + "play a at 0;".repeat(n);
                l.scored(text, few ? n * times : -1 - text.length(), few ? 0 : 4);
            }
        }
        for (int n = 22; n <= 27; n++) {
            l = loft();
            String storm = "storm a times 1 every 1 " + "at 0 use 2;".repeat(n) + "end end ";
            boolean few = n <= 24;
            String[] plays = {"play a at 0;", "storm b play a at 0; end play b at 0;", "times 1 every 1 play a at 0; end"};
            for (String play : plays) {
                String text = storm + play;
                l.scored(text, few ? n : -1 - text.length(), few ? 0 : 4);
            }
            l.scored(storm, 0, 0);
            String text = storm + "play a at 0; play a at 0;";
            l.scored(text, -1 - text.length(), 4);
        }
    }

    /** "or one behind TICK 4000". */
    private static void tick4000() {
        Loft l = loft();
        for (int at = 1995; at <= 2000; at++) {
            l = loft();
            for (int later = 1995; later <= 2000; later++) {
                String text = "times 2 every " + later + " at 5 use 2; at " + at + " use 2; end";
                boolean late = at + later > 4000;
                l.scored(text, late ? -1 - text.length() : 4, late ? 4 : 0);
                text = "times 3 every " + later + " at " + (at - 1995) + " use 2; end";
                late = 2 * later + at - 1995 > 4000;
                l.scored(text, late ? -1 - text.length() : 3, late ? 4 : 0);
                text = "storm a at " + at + " use 2; end storm b play a at " + later + "; end play b at 3;";
                late = at + later + 3 > 4000;
                l.scored(text, late ? -1 - text.length() : 1, late ? 4 : 0);
            }
        }
        l = loft();
        l.scored("at 0 use 2; times 3 every 2000 at 0 use 2; end", 4, 0);
        Loft.due("TICK of the last one", l.event(3, 0), 4000);
        l.scored("times 3 every 2000 at 1 use 2; end at 0 use 2;", -47, 4);
    }

    /** "what is never played does not count": neither EVENTS too many nor too late. */
    private static void neverPlayed() {
        Loft l = loft();
        l.scored("storm a times 20 every 2000 at 2000 use 2; at 2000 use 2; end end", 0, 0);
        l.scored("storm a times 20 every 2000 at 2000 use 2; at 2000 use 2; end end at 1 use 2;", 1, 0);
        l.scored("storm a times 20 every 1 at 0 use 2; at 0 use 2; end end storm b play a at 0; end", 0, 0);
        l.scored("storm a times 3 every 2000 at 1 use 2; end end storm b play a at 0; end play b at 0;", -85, 4);
        l.scored("storm a end times 20 every 2000 play a at 2000; end", 0, 0);
        l.scored("times 20 every 2000 times 20 every 2000 times 20 every 2000 times 20 every 2000 end end end end", 0, 0);
    }

    /** "They are in order by TICK, of one TICK as they came." */
    private static void order() {
        Loft l = loft();
        l.scored("at 2 use 3 with 1; at 1 use 3 with 2; at 1 use 3 with 3; at 0 use 3 with 4; at 2 use 3 with 5;", 5, 0);
        numbers(l, 4, 2, 3, 1, 5);
        l.scored("times 2 every 1 at 1 use 3 with 1; at 0 use 3 with 2; end", 4, 0);
        numbers(l, 2, 1, 2, 1);
        l.scored("storm a at 1 use 3 with 1; at 0 use 3 with 2; end at 1 use 3 with 3; play a at 0; at 0 use 3 with 4;", 4, 0);
        numbers(l, 2, 4, 3, 1);
        l.scored("times 2 every 1 times 2 every 1 at 0 use 3 with 1; at 0 use 3 with 2; end end", 8, 0);
        numbers(l, 1, 2, 1, 2, 1, 2, 1, 2);
        l.scored("times 2 every 5 at 0 use 3 with 1; at 5 use 3 with 2; end at 5 use 3 with 3;", 5, 0);
        numbers(l, 1, 2, 1, 3, 2);
        l.scored("times 3 every 5 at 0 use 3 with 1; at 5 use 3 with 2; end", 6, 0);
        numbers(l, 1, 2, 1, 2, 1, 2);
        l.scored("storm a at 5 use 3 with 1; times 2 every 5 at 0 use 3 with 2; at 5 use 3 with 3; end end "
            + "at 5 use 3 with 4; play a at 0; at 0 use 3 with 5;", 7, 0);
        numbers(l, 2, 5, 4, 1, 3, 2, 3);
        l.scored("times 2 every 3 times 2 every 3 at 0 use 3 with 1; at 3 use 3 with 2; end at 0 use 3 with 3; end", 10, 0);
        numbers(l, 1, 3, 2, 1, 1, 3, 2, 2, 1, 2);
        StringBuilder text = new StringBuilder();
        int[] falling = new int[24];
        for (int e = 0; e < 24; e++) {
            text.append("at ").append(23 - e).append(" use 3 with ").append(e + 1).append(';');
            falling[e] = 24 - e;
        }
        l.scored(text.toString(), 24, 0);
        numbers(l, falling);
    }

    private static void numbers(Loft l, int... want) {
        for (int e = 0; e < want.length; e++) {
            Loft.due("NUMBER of EVENT " + e, l.event(e, 2), want[e]);
        }
    }

    /** "how many EVENTS; -1 less the place of a FAULT: it stays." */
    private static void scoreStays() {
        Loft l = loft();
        String[] bad = {"x", "at", "at 2001", "play a", "times 20 every 1 at 0 use 2; at 0 use 2; end", blanks(601),
            "times 3 every 2000 at 1 use 2; end", storms(9)};
        l.scored("at 3 use 3 with 8; at 4 use 2;", 2, 0);
        for (String text : bad) {
            Loft.due("a FAULT", l.score(text) < 0, true);
            Loft.due("EVENTS stay", l.x.count(4), 2);
            Loft.due("the first one", l.event(0, 2), 8);
            Loft.due("the second one", l.event(1, 0), 4);
            Loft.due("no third one", l.event(2, 0), Loft.THROWN);
        }
        l.scored("", 0, 0);
        Loft.due("no EVENTS", l.x.count(4), 0);
        l.scored("x", -1, 1);
        Loft.due("none stay", l.x.count(4), 0);
    }

    /** "The kind of the FAULT of the latest score(); 0 without one and ahead of any." */
    private static void faultOfLatest() {
        Loft l = loft();
        Loft.due("ahead of any", l.x.fault(), 0);
        String[] texts = {"x", "at 2001", "play a", "at 0 use 2;".repeat(25), "at 0 use 2;"};
        for (int i = 0; i < 5; i++) {
            l.score(texts[i]);
            int kind = i == 4 ? 0 : i + 1;
            Loft.due("kind", l.x.fault(), kind);
            l.run(9);
            l.x.lay(9);
            l.x.worn(9);
            l.x.night();
            l.x.made();
            Loft.due("of the latest score", l.x.fault(), kind);
            l.score(i % 2 == 0 ? "" : "x");
            Loft.due("of another one", l.x.fault(), i % 2);
        }
    }

    /** "NoSuchElementException: there is none such, or another what." */
    private static void eventNumbers() {
        Loft l = loft();
        for (int n = 0; n <= 24; n += n == 2 ? 20 : 1) {
            l.scored("at 0 use 2;".repeat(n), n, 0);
            for (int what = 0; what <= 4; what++) {
                Loft.due("the last one", n == 0 || l.event(n - 1, what) != Loft.THROWN, true);
                Loft.due("behind the last one", l.event(n, what), Loft.THROWN);
                Loft.due("ahead of the first one", l.event(-1, what), Loft.THROWN);
            }
            for (int far : FAR) {
                Loft.due("EVENT " + far, l.event(far, 0), Loft.THROWN);
                Loft.due("event's what " + far, l.event(0, far), Loft.THROWN);
            }
            Loft.due("event's what 5", l.event(0, 5), Loft.THROWN);
        }
    }

    /** "a HEAD, SHEET, GATE 1 TICK, a BARREL 4 a turn, a DRUM as long as told"; "WORTH: how strong it is". */
    private static void eventTakes() {
        Loft l = loft();
        for (int m = 0; m < 5; m++) {
            int[] edges = {LEAST[m], 1, MOST[m] - 1, MOST[m]};
            for (int n : edges) {
                l.scored("at 2000 use " + m + " with " + n + ";", 1, 0);
                Loft.due("takes", l.event(0, 3), m == 1 ? 4 * n : m == 2 ? n : 1);
                Loft.due("WORTH", l.event(0, 4), m == 0 || m == 4 ? 1 : n);
                Loft.due("TICK", l.event(0, 0), 2000);
                Loft.due("MACHINE", l.event(0, 1), m);
                Loft.due("NUMBER", l.event(0, 2), n);
            }
        }
    }
}
