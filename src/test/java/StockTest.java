/** Promises 1 to 5 and 23: a new object, the tape, BOARDS, RUNS, how many there are. */
final class StockTest {
    public static void main(String[] args) {
        newObject();
        feed();
        end();
        board();
        run();
        count();
        Loft.close();
    }

    private static void newObject() {
        Loft l = new Loft();
        for (int what = 0; what <= 5; what++) {
            Loft.due("new count(" + what + ")", l.x.count(what), 0);
        }
        Loft.due("new fault", l.x.fault(), 0);
        Loft.due("new who", l.x.who(0), -1);
        Loft.due("new laid", l.x.laid(0), -1);
        Loft.due("new told(4)", l.x.told(4), 0);
        Loft.due("new knock", l.knock(0, 0), Loft.THROWN);
        Loft.due("new event", l.event(0, 0), Loft.THROWN);
        Loft.due("new sound", l.sound(0, 0), Loft.THROWN);
        Loft.due("NONE", StormLoft.NONE, -1);
    }

    private static void feed() {
        Loft l = new Loft();
        for (int i = 1; i <= 31; i++) {
            Loft.due("feed", l.x.feed(-1, 0, 1, 2, i), 20 * i);
        }
        Loft.due("end(620)", l.x.end(620), true);
        Loft.due("feed up to 640", l.x.feed(0, 0, 0, 0, 0), 640);
        Loft.due("feed beyond 640", l.x.feed(0, 0, 0, 0, 0), -1);
        Loft.due("none came", l.x.count(5), 640);
        l.x.end(621);
        Loft.due("feed at 621", l.x.feed(0, 0, 0, 0, 0), -1);
        Loft.due("count(5)", l.x.count(5), 621);
        order();
    }

    private static void order() {
        Loft l = new Loft();
        l.x.board(1, 1, 0, 0, 0);
        l.x.board(2, 1, 0, 0, 0);
        l.x.feed(0x000102FF, 0, 0, 0, 0);
        l.x.end(3);
        Loft.due("a PLACE 1 that is not there", l.x.run(0), -1);
        l.x.feed(0x000102FF, 0, 0, 0, 0);
        Loft.due("bytes come behind", l.x.feed(0, 0, 0, 0, 0), 40);
        l.x.end(0);
        l.x.feed(0x01010200, 0x02FF01FF, 0xFF000000, 0, 0);
        l.x.end(9);
        Loft.due("highest byte first", l.x.run(0), 3);
        l.x.feed(0, 0, 0, 0, 0x000000FF);
        Loft.due("the last byte", l.x.end(20), true);
    }

    private static void end() {
        Loft l = new Loft();
        Loft.due("end(0) of none", l.x.end(0), true);
        Loft.due("end(1) of none", l.x.end(1), false);
        l.x.feed(1, 2, 3, 4, 5);
        Loft.due("end(-1)", l.x.end(-1), false);
        Loft.due("end(21)", l.x.end(21), false);
        Loft.due("end(20)", l.x.end(20), true);
        Loft.due("end(7)", l.x.end(7), true);
        Loft.due("end(8) behind it", l.x.end(8), false);
        Loft.due("end(min)", l.x.end(Integer.MIN_VALUE), false);
        Loft.due("end(max)", l.x.end(Integer.MAX_VALUE), false);
        Loft.due("count(5)", l.x.count(5), 7);
    }

    private static void board() {
        Loft l = new Loft();
        int[] least = {1, -9, 0, 0, 0};
        int[] most = {40, 30, 15, 9, 8};
        for (int k = 0; k < 5; k++) {
            for (int side = 0; side < 2; side++) {
                int[] n = side == 0 ? least.clone() : most.clone();
                n[k] += side == 0 ? -1 : 1;
                Loft.due("board beyond " + k, l.x.board(n[0], n[1], n[2], n[3], n[4]), -1);
            }
        }
        Loft.due("no BOARDS", l.x.count(0), 0);
        for (int i = 0; i < 16; i++) {
            int[] n = i % 2 == 0 ? least : most;
            Loft.due("board " + i, l.x.board(n[0], n[1], n[2], n[3], n[4]), i);
        }
        Loft.due("a 17th", l.x.board(1, 0, 0, 0, 0), -1);
        Loft.due("16 BOARDS", l.x.count(0), 16);
    }

    private static void run() {
        Loft l = new Loft();
        l.x.board(1, 8, 0, 0, 0);
        Loft.due("no such RUN -1", l.run(-1, 0, 255, 255), -1);
        Loft.due("empty then", l.x.count(5), 0);
        Loft.due("no such RUN 4", l.run(4, 0, 255, 255), -1);
        Loft.due("no bytes", l.run(0), -1);
        Loft.due("two bytes", l.run(0, 0, 255), -1);
        Loft.due("four bytes", l.run(0, 0, 255, 255, 0), -1);
        Loft.due("empty with a FAULT, too", l.x.count(5), 0);
        Loft.due("no such BOARD", l.run(0, 1, 255, 255), -1);
        Loft.due("BOARD 255", l.run(0, 255, 255, 255), -1);
        Loft.due("its own PLACE", l.run(0, 0, 0, 255), -1);
        Loft.due("its own PLACE turned", l.run(0, 0, 255, 0), -1);
        Loft.due("PLACE 1 of 1", l.run(0, 0, 1, 255), -1);
        Loft.due("PLACE 2 of 2", l.run(0, 0, 2, 255, 0, 255, 255), -1);
        Loft.due("back", l.run(0, 0, 1, 1, 0, 255, 0), -1);
        Loft.due("254", l.run(0, 0, 254, 255), -1);
        Loft.due("no RUNS", l.x.count(1), 0);
        Loft.due("one PLACE", l.run(0, 0, 255, 255), 1);
        Loft.due("twelve", l.run(3, twelve(12)), 12);
        Loft.due("thirteen", l.run(3, twelve(13)), -1);
        Loft.due("RUNS", l.x.count(1), 2);
        Loft.due("RUN 3 stays", l.x.fall(3, 0, 0), 14);
        Loft.due("RUN 0", l.x.fall(0, 0, 0), 4);
        Loft.due("a FAULT", l.run(0, 0, 1, 1, 0, 255, 1), -1);
        Loft.due("RUN 0 stays", l.x.fall(0, 0, 0), 4);
        Loft.due("anew", l.run(0, 0, 1, 1, 0, 255, 255), 2);
        Loft.due("RUN 0 anew", l.x.fall(0, 0, 0), 6);
        Loft.due("RUNS", l.x.count(1), 2);
    }

    private static int[] twelve(int places) {
        int[] b = new int[3 * places];
        for (int p = 0; p < places; p++) {
            b[3 * p + 1] = p == places - 1 ? 255 : p + 1;
            b[3 * p + 2] = p < 11 && places > 11 ? 11 : 255;
        }
        return b;
    }

    private static void count() {
        Loft l = new Loft();
        l.x.board(1, 8, 0, 0, 0);
        l.run(2, 0, 255, 255);
        l.x.machine(0, 5, 2, 0);
        l.x.machine(3, 5, 0, 0);
        l.x.man(7);
        l.score("at 1 use 0; at 2 use 1; at 3 use 0;");
        l.x.feed(0, 0, 0, 0, 0);
        l.x.end(13);
        int[] want = {1, 1, 2, 1, 3, 13};
        for (int what = 0; what <= 5; what++) {
            Loft.due("count(" + what + ")", l.x.count(what), want[what]);
        }
        Loft.due("count(-1)", l.x.count(-1), -1);
        Loft.due("count(6)", l.x.count(6), -1);
    }
}
