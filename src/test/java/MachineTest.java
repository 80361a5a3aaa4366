/** Promises 8 and 9: MACHINES and MEN. */
final class MachineTest {
    public static void main(String[] args) {
        Loft l = new Loft();
        l.x.board(1, 8, 0, 0, 0);
        l.run(1, 0, 1, 1, 0, 255, 255);
        machine(l, 5, 0, 0, 0, -3);
        machine(l, -1, 0, 0, 0, -3);
        machine(l, 3, 100, 0, 0, -3);
        machine(l, 3, -1, 0, 0, -3);
        machine(l, 0, 0, 0, 0, -4);
        machine(l, 0, 0, -1, 0, -4);
        machine(l, 0, 0, 4, 0, -4);
        machine(l, 4, 0, 0, 0, -4);
        machine(l, 4, 0, 1, 2, -4);
        machine(l, 4, 0, 1, -1, -4);
        machine(l, 1, 0, 0, 1, -4);
        machine(l, 1, 0, 100, 1, -4);
        machine(l, 1, 0, 1, 0, -4);
        machine(l, 1, 0, 1, 201, -4);
        Loft.due("no MACHINES", l.x.count(2), 0);
        machine(l, 0, 0, 1, -77, 0);
        machine(l, 1, 99, 1, 1, 1);
        machine(l, 1, 99, 99, 200, 2);
        machine(l, 2, 50, -1, 1000, 3);
        machine(l, 3, 50, 1000, -1, 4);
        machine(l, 4, 50, 1, 0, 5);
        machine(l, 4, 50, 1, 1, 6);
        for (int i = 7; i < 12; i++) {
            machine(l, 3, i, 0, 0, i);
        }
        machine(l, 3, 0, 0, 0, -2);
        machine(l, 9, 200, 0, 0, -2);
        Loft.due("MACHINES", l.x.count(2), 12);
        Loft.due("man(-1)", l.x.man(-1), -1);
        Loft.due("man(100)", l.x.man(100), -1);
        Loft.due("man(0)", l.x.man(0), 0);
        Loft.due("man(99)", l.x.man(99), 1);
        Loft.due("man(99)", l.x.man(99), 2);
        Loft.due("man(5)", l.x.man(5), 3);
        Loft.due("a fifth", l.x.man(5), -1);
        Loft.due("MEN", l.x.count(3), 4);
        Loft.close();
    }

    private static void machine(Loft l, int kind, int x, int a, int b, int want) {
        Loft.due("machine(" + kind + ", " + x + ", " + a + ", " + b + ")", l.x.machine(kind, x, a, b), want);
    }
}
