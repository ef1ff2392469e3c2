/** Promises 26 to 30. */
public final class ReignsTest {
    private static final int BAD = DoubtCourt.BAD, NO = DoubtCourt.NO, FULL = DoubtCourt.FULL;
    private static final String THREE_DRY = "c2,9;c2,9;c2,9;";

    public static void main(String[] args) {
        tongues();
        tonguesOfTheLowest();
        tonguesRefuse();
        reignDraws();
        reignActs();
        reignRefuses();
        keepAndBack();
        whatIsKept();
        count();
        Due.end("ReignsTest");
    }

    private static void chance(DoubtCourt x, int n, int days, int tenths, int above, int below) {
        String call = "26: tongues(" + n + ", " + days + ", " + tenths + ", ";
        Due.same(call + "0)", x.tongues(n, days, tenths, 0), above);
        Due.same(call + "1)", x.tongues(n, days, tenths, 1), below);
    }

    private static void tongues() {
        DoubtCourt x = Due.laid(THREE_DRY + "n2,000;");
        chance(x, 0, 0, 5, 0, 1);
        chance(x, 0, 1, 10, 0, 1);
        chance(x, 0, 2, 0, 0, 1);
        chance(x, 0, 2, 3, 51, 100);
        chance(x, 0, 2, 5, 3, 4);
        chance(x, 0, 2, 10, 1, 1);
        chance(x, 0, 3, 0, 1, 1);
        DoubtCourt y = Due.laid("c2,9;n0,9;");
        chance(y, 0, 1, 3, 3, 10);
        chance(y, 0, 2, 3, 51, 100);
        chance(y, 0, 8, 1, 100000000 - 43046721, 100000000);
        chance(y, 0, 8, 10, 1, 1);
        chance(y, 0, 8, 0, 0, 1);
        Due.same("26: nothing changes", y.news(0, 0) * 10 + y.count(2), 0);
    }

    private static void tonguesOfTheLowest() {
        DoubtCourt x = Due.laid(THREE_DRY + "n2,000;n2,000;");
        chance(x, 1, 2, 5, 0, 1);
        chance(x, 0, 2, 5, 3, 4);
        DoubtCourt y = Due.laid("c2,9;n0,0;n0,9;");
        chance(y, 1, 1, 3, 0, 1);
        chance(y, 1, 2, 3, 3, 10);
        y.pass(1);
        chance(y, 0, 0, 4, 1, 1);
        chance(y, 0, 8, 4, 1, 1);
        chance(y, 1, 1, 4, 2, 5);
        DoubtCourt z = Due.laid("c2,9;c2,9;n1,99;");
        z.swap(0, 1);
        chance(z, 0, 1, 2, 1, 5);
    }

    private static void tonguesRefuse() {
        DoubtCourt x = Due.laid("c2,9;n0,9;");
        int[][] bad = {{-1, 0, 0, 0}, {1, 0, 0, 0}, {0, -1, 0, 0}, {0, 9, 0, 0}, {0, 0, -1, 0}, {0, 0, 11, 0}, {0, 0, 0, -1},
            {0, 0, 0, 2}, {Integer.MAX_VALUE, 1, 1, 1}, {0, Integer.MIN_VALUE, 0, 0}, {0, 1, Integer.MAX_VALUE, 0}};
        for (int[] a : bad) {
            Due.same("26: tongues(" + a[0] + ", " + a[1] + ", " + a[2] + ", " + a[3] + ")",
                    x.tongues(a[0], a[1], a[2], a[3]), BAD);
        }
    }

    private static int draw(int z, int k) {
        long x = 7919L * z + 6151L * k + 1;
        return (int) (x * x % 65521);
    }

    /** Where there is one courtier, one news and it stays, each draw tells its own way. */
    private static void reignDraws() {
        DoubtCourt x = Due.laid("c2,9;n0,9;");
        Due.same("27: DRAW of 0 and 0 is 1: 3 less", x.reign(0, 1, 1), 6);
        Due.same("27: DRAW of 0 and 1 is 41487: nothing", x.reign(0, 2, 1), 6);
        for (int z : new int[] {0, 1, 2, 17, 500, 9999}) {
            DoubtCourt y = Due.laid("c2,9;n0,9;");
            int belief = 9;
            int known = 0;
            for (int k = 0; k < 60; k++) {
                int way = draw(z, k) % 8;
                belief = way == 0 ? Math.min(9, belief + 3) : way == 1 ? Math.max(0, belief - 3) : belief;
                known = belief <= 4 ? 1 : known;
                Due.same("27: known by " + z + " of " + (k + 1), y.reign(z, k + 1, 0), known);
                Due.same("27: beliefs by " + z + " of " + (k + 1), y.reign(z, k + 1, 1), belief);
            }
        }
        Due.same("27: nothing changes", x.belief(0, 0) * 10 + x.count(2), 90);
    }

    /** The first day of every reign from 0 to 99, whose way is told by hand. */
    private static void reignActs() {
        String text = THREE_DRY + "n0,555;n1,555;n2,555;n2,444;";
        DoubtCourt x = Due.laid(text);
        int[] ways = new int[8];
        for (int z = 0; z < 100; z++) {
            DoubtCourt y = Due.laid(text);
            int draw = draw(z, 0);
            int c = draw / 8 % 3;
            int n = draw / 64 % 4;
            ways[draw % 8]++;
            switch (draw % 8) {
                case 0: y.prove(c, n, 3); break;
                case 1: y.prove(c, n, -3); break;
                case 2: y.hand(n, c); break;
                case 3: y.swap(c, draw / 64 % 3); break;
                default: break;
            }
            Due.same("27: known by " + z, x.reign(z, 1, 0), y.pass(1));
            Due.same("27: beliefs by " + z, x.reign(z, 1, 1), y.count(4));
        }
        for (int way = 0; way < 4; way++) {
            Due.isTrue("27: way " + way + " is met", ways[way] > 3);
        }
    }

    private static void reignRefuses() {
        DoubtCourt x = new DoubtCourt();
        int[][] bad = {{-1, 1, 0}, {10000, 1, 0}, {0, 0, 0}, {0, 61, 0}, {0, 1, -1}, {0, 1, 2},
            {Integer.MAX_VALUE, 1, 0}, {0, Integer.MIN_VALUE, 0}, {0, 1, Integer.MAX_VALUE}};
        for (int[] a : bad) {
            Due.same("27: reign(" + a[0] + ", " + a[1] + ", " + a[2] + ")", x.reign(a[0], a[1], a[2]), BAD);
        }
        Due.isTrue("27: the edges", x.reign(0, 1, 0) >= 0 && x.reign(9999, 60, 1) >= 0);
    }

    private static void keepAndBack() {
        DoubtCourt x = Due.laid("c2,9;n0,5;");
        Due.same("29: none", x.back(), NO);
        Due.same("28: one", x.keep(), 1);
        x.prove(0, 0, 1);
        Due.same("28: two", x.keep(), 2);
        x.prove(0, 0, 1);
        Due.same("28: full", x.keep(), FULL);
        Due.same("29: one left", x.back(), 1);
        Due.same("29: the last", x.belief(0, 0), 6);
        Due.same("28: two again", x.keep(), 2);
        x.prove(0, 0, -4);
        Due.same("29: one left", x.back(), 1);
        Due.same("29: the last", x.belief(0, 0), 6);
        Due.same("29: none left", x.back(), 0);
        Due.same("29: the first", x.belief(0, 0), 5);
        Due.same("29: none", x.back(), NO);
    }

    private static void whatIsKept() {
        DoubtCourt x = Due.laid("c2,9;c0,0;c2,9;n2,955;");
        x.prove(2, 0, -2);
        x.keep();
        x.pass(2);
        x.swap(0, 2);
        x.hand(0, 2);
        x.see(9, 0);
        x.write('!');
        Due.same("29: back", x.back(), 0);
        Due.same("29: days", x.count(2), 0);
        Due.same("29: places", x.courtier(0, 2), 0);
        Due.same("29: at whom", x.news(0, 0), 2);
        Due.same("29: beliefs", x.belief(1, 0), 5);
        Due.same("29: seen stays", x.count(5), 1);
        Due.same("29: the text stays", x.count(8), 23);
        Due.same("29: nothing is undone", x.count(6), 0);
        Due.same("29: nothing is undone", x.undo(), NO);
        x.swap(0, 1);
        x.keep();
        Due.same("28: what can be undone stays", x.undo(), 0);
        Due.same("28: undone leaves what is kept", x.back(), 0);
        Due.same("29: as kept", x.courtier(0, 2), 1);
    }

    private static void count() {
        DoubtCourt x = Due.laid("c2,9;c2,9;n0,49;n1,99;n1,00;");
        x.pass(3);
        x.prove(1, 1, -3);
        x.see(0, 0);
        x.keep();
        int[] want = {2, 3, 3, 2, 28, 1, 2, 1, 28};
        for (int what = 0; what < want.length; what++) {
            Due.same("30: count(" + what + ")", x.count(what), want[what]);
        }
        for (int what : new int[] {-1, 9, Integer.MIN_VALUE, Integer.MAX_VALUE}) {
            Due.same("30: count(" + what + ")", x.count(what), BAD);
        }
    }
}
