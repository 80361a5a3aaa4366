import java.util.NoSuchElementException;
import java.util.Random;

/** Calls with any arguments in any state: nothing is thrown but what the document names. */
final class WildTest {
    private static final int[] EDGES = {Integer.MIN_VALUE, Integer.MIN_VALUE + 1, -65536, -513, -256, -128, -65, -33,
        -32, -3, -2, -1, 0, 1, 2, 3, 4, 5, 8, 9, 11, 12, 13, 15, 16, 23, 24, 31, 32, 63, 64, 99, 100, 255, 256, 299,
        300, 500, 512, 600, 639, 640, 641, 1000, 1001, 2000, 4095, 4096, 65535, 65536, 1 << 24, 0x01010101,
        Integer.MAX_VALUE - 1, Integer.MAX_VALUE};

    public static void main(String[] args) {
        for (int seed = 0; seed < 400; seed++) {
            Random chance = new Random(seed);
            StormLoft x = new StormLoft();
            for (int i = 0; i < 512; i++) {
                int[] a = new int[5];
                int call = chance.nextInt(24);
                for (int k = 0; k < 5; k++) {
                    a[k] = chance.nextInt(3) == 0 ? EDGES[chance.nextInt(EDGES.length)] : chance.nextInt(13);
                }
                Loft.due("seed " + seed + ", call " + i + " (" + call + ")", call(x, call, a), true);
            }
        }
        Loft.close();
    }

    private static boolean call(StormLoft x, int call, int[] a) {
        try {
            any(x, call, a);
            return true;
        } catch (NoSuchElementException e) {
            return call >= 21;
        } catch (RuntimeException e) {
            e.printStackTrace(System.out);
            return false;
        }
    }

    private static void any(StormLoft x, int call, int[] a) {
        switch (call) {
            case 0, 1 -> x.feed(a[0], a[1], a[2], a[3], a[4]);
            case 2 -> x.end(a[0]);
            case 3, 4 -> x.board(a[0], a[1], a[2], a[3] % 10, a[4] % 9);
            case 5 -> x.run(a[0]);
            case 6 -> {
                x.end(0);
                x.feed(a[0] % 3 << 24 | 0x0102 | a[1] % 3 & 3, 0x01020101, 0x02FFFF << 8, 0, 0);
                x.end(a[3] % 4 * 3);
                x.run(a[4] & 3);
            }
            case 7 -> x.fall(a[0], a[1], a[2]);
            case 8, 9 -> x.machine(a[0] % 5, a[1], a[2], a[3]);
            case 10 -> x.man(a[0]);
            case 11 -> {
                x.end(0);
                x.feed(0x61742030, 0x20757365, 0x20300000 | '0' + a[0] % 9 << 16 | 0x3b20, 0x20202020, 0x20202020);
                x.feed(0x61742038, 0x20757365, 0x20300000 | '0' + a[1] % 9 << 16 | 0x3b20, 0x20202020, 0x20202020);
                x.score();
            }
            case 12 -> x.score();
            case 13 -> x.fault();
            case 14 -> x.night();
            case 15 -> x.told(a[0]);
            case 16 -> {
                x.made();
                x.who(a[0]);
            }
            case 17 -> x.balls(a[0], a[1]);
            case 18 -> x.fillings(a[0]);
            case 19 -> {
                x.lay(a[0]);
                x.laid(a[1]);
            }
            case 20 -> {
                x.worn(a[0]);
                x.count(a[1]);
            }
            case 21 -> x.knock(a[0], a[1]);
            case 22 -> x.event(a[0], a[1]);
            default -> x.sound(a[0], a[1]);
        }
    }
}
