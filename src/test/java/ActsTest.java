/** Promises 9 to 13. */
public final class ActsTest {
    private static final int BAD = DoubtCourt.BAD, NO = DoubtCourt.NO;

    public static void main(String[] args) {
        goesUp();
        goesToTheNearest();
        nobodyDoubts();
        beliefsSpread();
        beliefsAllAtOnce();
        theAuntWhoHasIt();
        pass();
        prove();
        hand();
        swap();
        undo();
        undoTheLastEight();
        Due.end("ActsTest");
    }

    private static void goesUp() {
        DoubtCourt x = Due.laid("c2,9;c2,9;c2,9;n2,040;");
        int[] at = {1, 0, 9, 9};
        for (int day = 0; day < at.length; day++) {
            Due.same("9: known, day " + day, x.pass(1), day < 2 ? 0 : 1);
            Due.same("9: goes up, day " + day, x.news(0, 0), at[day]);
        }
        DoubtCourt y = Due.laid("c2,9;c2,9;c2,9;n0,500;");
        Due.same("9: not to the king by one who believes it", y.pass(1), 0);
        Due.same("9: handed on", y.news(0, 0), 1);
    }

    private static void goesToTheNearest() {
        String five = "c2,9;c2,9;c2,9;c2,9;c2,9;";
        Object[][] rows = {{"n2,90999;", 1}, {"n2,99909;", 3}, {"n2,90909;", 1}, {"n2,09990;", 0}, {"n2,99990;", 4},
            {"n2,09909;", 3}, {"n0,99900;", 3}, {"n4,04959;", 1}, {"n1,95449;", 2}};
        for (Object[] row : rows) {
            DoubtCourt x = Due.laid(five + row[0]);
            Due.same("9: pass", x.pass(1), 0);
            Due.same("9: nearest " + row[0], x.news(0, 0), (Integer) row[1]);
        }
        DoubtCourt x = Due.laid(five + "n2,90909;");
        x.swap(1, 3);
        x.pass(1);
        Due.same("9: by place, not by courtier", x.news(0, 0), 3);
        x.pass(1);
        Due.same("9: and up by place", x.news(0, 0), 0);
    }

    private static void nobodyDoubts() {
        DoubtCourt x = Due.laid("c2,9;c2,9;n1,55;");
        Due.same("9: pass", x.pass(24), 0);
        Due.same("9: stays", x.news(0, 0), 1);
    }

    private static void beliefsSpread() {
        DoubtCourt x = Due.laid("c0,1;c2,9;c1,1;c3,9;c1,9;c0,0;c0,9;n1,3959755;");
        Due.same("9: pass", x.pass(1), 0);
        beliefs(x, "on the first day", new int[] {4, 9, 7, 8, 7, 5, 5});
        Due.same("9: at the doubter", x.news(0, 0), 0);
        Due.same("9: pass", x.pass(1), 1);
        beliefs(x, "known, nothing changes", new int[] {4, 9, 7, 8, 7, 5, 5});
        DoubtCourt y = Due.laid("c1,2;c0,2;c2,9;c3,9;n2,8991;n0,4444;");
        y.pass(1);
        beliefs(y, "no more than 9, no less than 0", new int[] {9, 9, 9, 1});
        Due.same("9: nothing of known news", y.news(1, 0), 9);
        Due.same("9: nor from its own day on", y.belief(3, 1), 4);
        y.pass(3);
        Due.same("9: 0 at least", y.belief(3, 0), 0);
    }

    private static void beliefs(DoubtCourt x, String what, int[] want) {
        for (int c = 0; c < want.length; c++) {
            Due.same("9: belief of " + c + " " + what, x.belief(c, 0), want[c]);
        }
    }

    private static void beliefsAllAtOnce() {
        DoubtCourt x = Due.laid("c3,9;c0,0;c1,1;c2,9;n3,5539;");
        x.prove(2, 0, 2);
        x.pass(1);
        beliefs(x, "all by how they were", new int[] {4, 6, 7, 9});
        x.pass(1);
        beliefs(x, "she has it, whom they heed doubts it", new int[] {4, 6, 9, 9});
        x.pass(1);
        Due.same("9: known", x.news(0, 0), 9);
    }

    private static void theAuntWhoHasIt() {
        DoubtCourt x = Due.laid("c2,9;c3,9;n1,99;");
        x.pass(9);
        Due.same("9: she has it: nothing", x.belief(1, 0), 9);
        DoubtCourt y = Due.laid("c3,9;c2,9;n1,99;");
        y.pass(5);
        Due.same("9: 1 less a day", y.belief(0, 0), 4);
        y.pass(1);
        Due.same("9: it is handed to her", y.news(0, 0), 0);
        Due.same("9: on that day nothing", y.belief(0, 0), 4);
    }

    private static void pass() {
        DoubtCourt x = new DoubtCourt();
        for (int n : new int[] {0, 25, -1, Integer.MIN_VALUE, Integer.MAX_VALUE}) {
            Due.same("9: pass(" + n + ")", x.pass(n), BAD);
        }
        for (int i = 1; i <= 41; i++) {
            x.pass(24);
            Due.same("9: days gone by", x.count(2), 24 * i);
        }
        Due.same("9: beyond 999", x.pass(16), NO);
        Due.same("9: bad ahead of no", x.pass(25), BAD);
        Due.same("9: nothing went by", x.count(2), 984);
        Due.isTrue("9: up to 999", x.pass(15) >= 0);
        Due.same("9: not one more", x.pass(1), NO);
        Due.same("9: days", x.count(2), 999);
        x.undo();
        Due.same("9: days undone", x.count(2), 984);
        Due.isTrue("9: so they can go by", x.pass(1) >= 0);
    }

    private static void prove() {
        DoubtCourt x = Due.laid("c2,9;c2,9;n0,05;n0,90;");
        Due.same("10: more", x.prove(1, 0, 3), 8);
        Due.same("10: no more than 9", x.prove(1, 0, 9), 9);
        Due.same("10: the same", x.prove(1, 0, 1), NO);
        Due.same("10: less", x.prove(1, 0, -4), 5);
        Due.same("10: no less than 0", x.prove(1, 0, -9), 0);
        Due.same("10: the same", x.prove(1, 0, -1), NO);
        Due.same("10: by 0", x.prove(0, 1, 0), NO);
        Due.same("10: others as they were", x.belief(0, 1) * 100 + x.belief(0, 0) * 10 + x.belief(1, 1), 900);
        Due.same("10: only four were", x.count(6), 4);
        x.pass(1);
        Due.same("10: news that is known", x.news(0, 0), 9);
        Due.same("10: known, too", x.prove(0, 0, 7), 7);
        int[][] bad = {{-1, 0, 1}, {2, 0, 1}, {0, -1, 1}, {0, 2, 1}, {0, 0, 10}, {0, 0, -10},
            {0, 0, Integer.MAX_VALUE}, {Integer.MIN_VALUE, 0, 0}, {0, 2, 0}};
        for (int[] a : bad) {
            Due.same("10: prove(" + a[0] + ", " + a[1] + ", " + a[2] + ")", x.prove(a[0], a[1], a[2]), BAD);
        }
    }

    private static void hand() {
        DoubtCourt x = Due.laid("c2,9;c2,9;c2,9;n0,555;n2,044;");
        Due.same("11: at whom it was", x.hand(0, 2), 0);
        Due.same("11: is there", x.hand(0, 2), NO);
        Due.same("11: handed", x.news(0, 0), 2);
        Due.same("11: has both", x.courtier(2, 3), 3);
        Due.same("11: at whom it was", x.hand(1, 0), 2);
        x.pass(1);
        Due.same("11: known", x.hand(1, 1), NO);
        int[][] bad = {{-1, 0}, {2, 0}, {0, -1}, {0, 3}, {0, 9}, {1, 3}, {Integer.MAX_VALUE, 0}, {0, Integer.MIN_VALUE}};
        for (int[] a : bad) {
            Due.same("11: hand(" + a[0] + ", " + a[1] + ")", x.hand(a[0], a[1]), BAD);
        }
        Due.same("11: two were handed, a day went by", x.count(6), 3);
    }

    private static void swap() {
        DoubtCourt x = Due.laid("c2,9;c2,9;c2,9;n0,444;");
        Due.same("12: place of the first", x.swap(0, 2), 2);
        Due.same("12: place of the other", x.courtier(2, 2), 0);
        Due.same("12: place of the first", x.swap(1, 0), 2);
        Due.same("12: places", x.courtier(0, 2) * 100 + x.courtier(1, 2) * 10 + x.courtier(2, 2), 120);
        Due.same("12: news stays with whom it was", x.news(0, 0), 0);
        x.pass(1);
        Due.same("12: goes up by places", x.news(0, 0), 2);
        int[][] bad = {{0, 0}, {2, 2}, {-1, 0}, {0, -1}, {3, 0}, {0, 3}, {Integer.MIN_VALUE, 1}, {1, Integer.MAX_VALUE}};
        for (int[] a : bad) {
            Due.same("12: swap(" + a[0] + ", " + a[1] + ")", x.swap(a[0], a[1]), BAD);
        }
        Due.same("12: bad ones are not done", x.count(6), 3);
    }

    private static void undo() {
        DoubtCourt x = Due.laid("c2,9;c2,9;c3,9;n2,448;");
        Due.same("13: nothing", x.undo(), NO);
        x.pass(2);
        x.prove(1, 0, 5);
        x.hand(0, 2);
        x.swap(0, 2);
        Due.same("13: three more", x.undo(), 3);
        Due.same("13: places", x.courtier(0, 2), 0);
        Due.same("13: two more", x.undo(), 2);
        Due.same("13: handed back", x.news(0, 0), 0);
        Due.same("13: one more", x.undo(), 1);
        Due.same("13: proof", x.belief(1, 0), 4);
        Due.same("13: none more", x.undo(), 0);
        Due.same("13: days at one time are one", x.count(2), 0);
        Due.same("13: news", x.news(0, 0), 2);
        Due.same("13: beliefs", x.belief(2, 0), 8);
        Due.same("13: nothing", x.undo(), NO);
    }

    private static void undoTheLastEight() {
        DoubtCourt x = Due.laid("c2,9;n0,5;");
        int[] then = {6, 7, 8, 9, 8, 7, 6, 5, 4, 3, 2};
        for (int i = 0; i < then.length; i++) {
            Due.same("13: proof", x.prove(0, 0, i < 4 ? 1 : -1), then[i]);
            Due.same("13: can be undone", x.count(6), Math.min(8, i + 1));
        }
        for (int more = 7; more >= 0; more--) {
            Due.same("13: more", x.undo(), more);
            Due.same("13: as ahead of it", x.belief(0, 0), then[more + 2]);
        }
        Due.same("13: the last eight only", x.undo(), NO);
        Due.same("13: not the first three", x.belief(0, 0), 8);
    }
}
