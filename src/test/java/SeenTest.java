/** Promises 22 to 25. */
public final class SeenTest {
    private static final int BAD = DoubtCourt.BAD, FULL = DoubtCourt.FULL;

    public static void main(String[] args) {
        see();
        forget();
        which();
        kinds();
        Due.end("SeenTest");
    }

    private static void see() {
        DoubtCourt x = Due.laid("c2,9;c2,9;n0,00;");
        int[][] bad = {{2, 0}, {-1, 0}, {8, 0}, {10, 0}, {0, -1}, {0, 21}, {9, 21}, {Integer.MIN_VALUE, 0}, {0, Integer.MAX_VALUE}};
        for (int[] a : bad) {
            Due.same("22: see(" + a[0] + ", " + a[1] + ")", x.see(a[0], a[1]), BAD);
        }
        Due.same("22: none of these is seen", x.count(5), 0);
        int[][] so = {{0, 0}, {9, 20}, {1, 0}, {0, 0}, {9, 0}, {0, 20}};
        for (int i = 0; i < so.length; i++) {
            Due.same("22: how many", x.see(so[i][0], so[i][1]), i + 1);
        }
        Due.same("22: full", x.see(0, 0), FULL);
        Due.same("22: bad ahead of full", x.see(2, 0), BAD);
        Due.same("22: six", x.count(5), 6);
    }

    private static void forget() {
        DoubtCourt x = Due.laid("c2,9;n0,5;");
        Due.same("23: none", x.forget(), 0);
        x.see(9, 0);
        x.see(9, 0);
        Due.same("23: not so", x.which(), 0);
        Due.same("23: two were", x.forget(), 2);
        Due.same("23: none is", x.count(5), 0);
        Due.same("23: nothing contradicts", x.which(), 1);
        Due.same("23: from the start", x.see(0, 0), 1);
        Due.same("23: so", x.which(), 1);
    }

    private static void which() {
        DoubtCourt x = Due.laid("c2,9;c2,9;c2,9;n2,000;n1,000;n2,999;n1,900;");
        Due.same("24: nothing seen", x.which(), 15);
        x.see(1, 1);
        Due.same("24: the first alone", x.which(), 1);
        x.see(9, 3);
        Due.same("24: and known", x.which(), 1);
        x.see(9, 20);
        Due.same("24: and known still", x.which(), 1);
        x.pass(1);
        Due.same("24: from the day on which it is asked", x.which(), 0);
        x.undo();
        Due.same("24: as ahead of it", x.which(), 1);
        x.see(9, 2);
        Due.same("24: all that is seen", x.which(), 0);
        x.forget();
        x.see(9, 2);
        Due.same("24: the second", x.which(), 2);
        x.forget();
        x.see(2, 20);
        Due.same("24: the third", x.which(), 4);
        x.forget();
        x.see(1, 20);
        x.see(0, 19);
        Due.same("24: the fourth", x.which(), 8);
        x.forget();
        x.see(2, 0);
        Due.same("24: today", x.which(), 5);
        x.pass(3);
        x.forget();
        x.see(9, 0);
        Due.same("24: known today", x.which(), 3);
    }

    private static void kinds() {
        DoubtCourt x = Due.laid("c0,1;c2,9;n1,49;n1,00;");
        Due.same("25: nothing seen", x.kinds(0, 0), 15);
        x.see(9, 2);
        Due.same("25: a dry one or an aunt", x.kinds(0, 0), 12);
        Due.same("25: the other's kind is no matter", x.kinds(1, 0), 0);
        Due.same("25: of other news", x.kinds(0, 1), 15);
        x.forget();
        x.see(0, 2);
        Due.same("25: a plain or a hopeful one", x.kinds(0, 0), 3);
        x.forget();
        Due.same("25: its own kind stays", x.courtier(0, 0), 0);
        DoubtCourt y = Due.laid("c0,1;c2,9;n1,29;");
        y.prove(0, 0, 1);
        y.see(9, 2);
        Due.same("25: all but a hopeful one", y.kinds(0, 0), 13);
        int[][] bad = {{-1, 0}, {2, 0}, {0, -1}, {0, 2}, {Integer.MAX_VALUE, 0}, {0, Integer.MIN_VALUE}};
        for (int[] a : bad) {
            Due.same("25: kinds(" + a[0] + ", " + a[1] + ")", x.kinds(a[0], a[1]), BAD);
        }
    }
}
