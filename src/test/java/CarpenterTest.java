/** Promises 20 to 22: RUNS LAID as they are wished, and WORN steps. */
final class CarpenterTest {
    public static void main(String[] args) {
        asTold();
        laid();
        stockOfEight();
        worn();
        wornSets();
        likeSets();
        twelvePlaces();
        upToTick2000();
        justJumped();
        slowly();
        Loft.close();
    }

    private static void asTold() {
        Loft l = new Loft();
        Loft.due("no BOARDS", l.lay(1, 3), -1);
        Loft.due("empty then", l.x.count(5), 0);
        l.x.board(1, 8, 0, 0, 0);
        l.run(0, 0, 255, 255);
        Loft.due("lay(0)", l.lay(0, 3), -1);
        Loft.due("lay(5)", l.lay(5, 3), -1);
        Loft.due("lay(-1)", l.lay(-1, 3), -1);
        Loft.due("laid ahead of any", l.x.laid(0), -1);
        Loft.due("not rising", l.lay(1, 3, 3), -1);
        Loft.due("falling", l.lay(1, 5, 6, 3), -1);
        Loft.due("eleven", l.lay(1, 1, 2, 3, 4, 5, 6, 7, 8, 9, 10, 11), -1);
        l.tape(0, 1, 0);
        Loft.due("odd", l.x.lay(1), -1);
        Loft.due("empty with a FAULT", l.x.count(5), 0);
        Loft.due("ten", l.lay(1, 0, 2, 3, 4, 5, 6, 7, 8, 9, 65535), 1000);
        Loft.due("none", l.lay(1), 0);
        Loft.due("worn of no RUN", l.worn(1, 3), -1);
        Loft.due("worn(-1)", l.worn(-1), -1);
        Loft.due("worn(4)", l.worn(4), -1);
        Loft.due("worn falling", l.worn(0, 5, 4), -1);
        Loft.due("worn twice", l.worn(0, 5, 5), -1);
        l.tape(1);
        Loft.due("worn odd", l.x.worn(0), -1);
        Loft.due("empty behind worn", l.x.count(5), 0);
        Loft.due("worn of eleven", l.worn(0, 1, 2, 3, 4, 5, 6, 7, 8, 9, 10, 11), -1);
    }

    /** BOARD 0 knocks in TICK 3, BOARD 1 in TICK 2, BOARD 2 like BOARD 1. */
    private static void laid() {
        Loft l = new Loft();
        l.x.board(1, 16, 0, 4, 0);
        l.x.board(1, 30, 0, 1, 0);
        l.x.board(1, 30, 0, 2, 0);
        Loft.due("2 wished", l.lay(1, 2), 0);
        Loft.due("no KNOCK of BOARD 1", l.x.laid(0), 2);
        Loft.due("5 wished", l.lay(1, 5), 2);
        Loft.due("nearest", l.x.laid(0), 0);
        Loft.due("bad", l.lay(7, 5), -1);
        Loft.due("the latest that was not NONE", l.x.laid(0), 0);
        l.worn(0);
        Loft.due("none wished", l.lay(2), 100);
        Loft.due("laid(0)", l.x.laid(0), 1);
        Loft.due("laid(1)", l.x.laid(1), 0);
        Loft.due("laid(2)", l.x.laid(2), -1);
        Loft.due("laid(-1)", l.x.laid(-1), -1);
        Loft.due("laid(max)", l.x.laid(Integer.MAX_VALUE), -1);
        Loft.due("two for one", l.lay(1, 2, 9), 100);
        Loft.due("as it was wished", l.x.laid(0), 2);
        Loft.due("fewer BOARDS then", l.x.laid(1), -1);
        Loft never = new Loft();
        never.x.board(1, 0, 0, 9, 0);
        never.x.board(1, -1, 0, 9, 0);
        Loft.due("never", never.lay(4, 1, 2), 200);
        Loft.due("the first of like ones", never.x.laid(3), 0);
    }

    private static void stockOfEight() {
        Loft l = new Loft();
        for (int i = 0; i < 8; i++) {
            l.x.board(40, 1, 0, 9, 0);
        }
        l.x.board(1, 30, 0, 9, 0);
        Loft.due("the KNOCK of a BOARD", l.lay(1, 2), 70);
        Loft.due("the ninth is not taken", l.x.laid(0), 0);
        l.run(0, 8, 255, 255);
        Loft.due("that would be it", l.x.fall(0, 0, 0), 2);
    }

    private static void worn() {
        Loft l = new Loft();
        l.x.board(2, 16, 0, 4, 0);
        l.x.board(2, 16, 0, 0, 0);
        l.run(0, 0, 1, 1, 0, 2, 2, 1, 255, 255);
        Loft.due("none heard", l.worn(0), 0);
        Loft.due("heard in TICK 0", l.worn(0, 0), -2);
        Loft.due("heard far behind", l.worn(0, 65535), -2);
        l.x.fall(0, 0, 0);
        Loft.due("as it is", l.worn(0, l.knock(0, 0), l.knock(1, 0)), 0);
        Loft.due("one of two", l.worn(0, l.knock(1, 0)), 0);
    }

    /** Each set of worn steps is told from all that is heard with it, or a lesser one that explains it, too. */
    private static void wornSets() {
        int[][] boards = {{3, 9, 2, 9, 2}, {2, 5, 1, 4, 0}, {4, 3, 0, 7, 1}, {3, 12, 3, 1, 3}};
        int[] run = {0, 1, 255, 1, 2, 255, 2, 3, 255, 3, 4, 255, 0, 5, 255, 2, 6, 255, 1, 255, 255};
        int told = 0;
        for (int set = 0; set < 128; set++) {
            Model m = new Model();
            Loft l = new Loft();
            for (int[] b : boards) {
                stock(l, m, b);
            }
            l.run(3, run);
            m.run(3, run);
            java.util.List<int[]> f = m.fall(m.runs[3], 0, set);
            int[] heard = new int[f.size() - 1];
            for (int k = 0; k < heard.length; k++) {
                heard[k] = f.get(k)[0];
            }
            int want = m.worn(3, heard);
            told += want > 0 ? 1 : 0;
            Loft.due("worn set " + set, l.worn(3, heard), want);
        }
        Loft.due("some sets are told", told > 20, true);
    }

    /** Each of the steps of PLACES 0 and 1 alone explains what is heard: the first has it. */
    private static void likeSets() {
        int[][] stocks = {{2, 15, 0, 4, 0, 1, 2, 3, 4, 8, 6, 12, 1, 3, 3}, {2, 9, 3, 7, 8, 4, 21, 3, 7, 7, 4, 24, 2, 2, 3},
            {4, 22, 0, 9, 0, 6, 18, 3, 6, 3, 4, 7, 1, 3, 8}};
        int[] heard = {11, 12, 9};
        for (int i = 0; i < 3; i++) {
            Loft l = new Loft();
            Model m = new Model();
            stock(l, m, stocks[i]);
            int[] run = {0, 1, 255, 1, 2, 255, 2, 255, 255};
            l.run(0, run);
            m.run(0, run);
            for (int set = 1; set <= 2; set++) {
                java.util.List<int[]> f = m.fall(m.runs[0], 0, set);
                Loft.due("heard with worn " + set, f.get(2)[0], heard[i]);
            }
            Loft.due("of like sets", l.worn(0, heard[i]), 1);
        }
    }

    private static void stock(Loft l, Model m, int... numbers) {
        for (int i = 0; i + 4 < numbers.length; i += 5) {
            int[] b = java.util.Arrays.copyOfRange(numbers, i, i + 5);
            l.x.board(b[0], b[1], b[2], b[3], b[4]);
            m.board(b[0], b[1], b[2], b[3], b[4]);
        }
    }

    /** What is worn is told from the KNOCK of the last of twelve PLACES, and from all that are kept. */
    private static void twelvePlaces() {
        Loft l = new Loft();
        Model m = new Model();
        stock(l, m, 2, 20, 9, 6, 6);
        int[] run = new int[36];
        for (int p = 0; p < 12; p++) {
            run[3 * p + 1] = p == 11 ? 255 : p + 1;
            run[3 * p + 2] = 255;
        }
        l.run(0, run);
        m.run(0, run);
        for (int set = 0; set < 4096; set += 315) {
            java.util.List<int[]> f = m.fall(m.runs[0], 0, set);
            Loft.due("KNOCKS of all PLACES", f.size() - 1, 12);
            Loft.due("the last one", l.worn(0, f.get(11)[0]), m.worn(0, new int[] {f.get(11)[0]}));
            int[] heard = new int[10];
            for (int k = 0; k < 10; k++) {
                heard[k] = f.get(k + 2)[0];
            }
            Loft.due("ten of them", l.worn(0, heard), m.worn(0, heard));
        }
    }

    /** The ball knocks in TICK 2000, or, a little longer on its way, in TICK 2001, which is behind its FALL. */
    private static void upToTick2000() {
        for (int late = 0; late < 2; late++) {
            Loft l = new Loft();
            l.x.board(40, 1, 4 + late, 0, 0);
            l.x.board(late == 0 ? 27 : 14, 1, 4 + late, 9, 0);
            int places = late == 0 ? 12 : 10;
            int[] run = new int[3 * places];
            for (int p = 0; p < places; p++) {
                run[3 * p] = p == places - 1 ? 1 : 0;
                run[3 * p + 1] = p == places - 1 ? 255 : p + 1;
                run[3 * p + 2] = 255;
            }
            l.run(0, run);
            Loft.due("fall", l.x.fall(0, 0, 0), late == 0 ? 2000 : -1);
            Loft.due("heard in time or late", l.worn(0, 2000 + late), late == 0 ? 0 : -2);
        }
    }

    private static void laysAsModel(Loft l, Model m, int boards, int... wished) {
        String what = "lay(" + boards + ") for " + java.util.Arrays.toString(wished);
        Loft.due(what, l.lay(boards, wished), m.lay(boards, wished));
        for (int k = 0; k < boards; k++) {
            Loft.due(what + ": laid(" + k + ")", l.x.laid(k), m.laid[k]);
        }
    }

    /** Behind BOARDS 0 to 2 the part is just 64, so that BOARD 3 is jumped. */
    private static void justJumped() {
        int[] stock = {4, 4, 2, 5, 2, 2, 11, 2, 9, 7, 6, 4, 0, 8, 8, 1, 1, 15, 9, 0, 2, 9, 1, 9, 3};
        for (int wish = 1; wish < 40; wish++) {
            Loft l = new Loft();
            Model m = new Model();
            stock(l, m, stock);
            int jumped = 0;
            for (int b = 0; b < 3; b++) {
                l.run(0, b, 1, 1, 3, 255, 255);
                jumped += l.x.fall(0, 0, 2);
            }
            Loft.due("JUMPED", jumped, 3);
            laysAsModel(l, m, 2, wish);
            laysAsModel(l, m, 3, wish, wish + 3);
        }
    }

    /** A ball that is slowed down to SPEED 1, and KNOCKS about TICK 2000. */
    private static void slowly() {
        Loft l = new Loft();
        Model m = new Model();
        stock(l, m, 1, 1, 15, 0, 8, 40, 0, 0, 0, 8, 8, 0, 0, 0, 0, 1, 30, 0, 9, 0, 3, 0, 0, 0, 0, 2, 0, 0, 0, 8);
        for (int wish = 1700; wish < 2100; wish += 13) {
            laysAsModel(l, m, 4, wish);
        }
        int[] run = {0, 1, 255, 1, 2, 255, 2, 3, 255, 3, 255, 255};
        l.run(0, run);
        l.x.fall(0, 0, 0);
        Loft.due("heard of the slow one", l.worn(0, l.knock(0, 0)), 0);
        Loft.due("heard a TICK later", l.worn(0, l.knock(0, 0) + 1), -2);
    }
}
