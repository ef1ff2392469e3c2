/** Promises 1 to 8. */
public final class CourtsTest {
    private static final int BAD = DoubtCourt.BAD, NO = DoubtCourt.NO, FULL = DoubtCourt.FULL, NONE = DoubtCourt.NONE;

    public static void main(String[] args) {
        aNewObject();
        write();
        wipe();
        faultless();
        faultyCourtiers();
        faultyNews();
        lay();
        layClears();
        courtier();
        news();
        belief();
        Due.end("CourtsTest");
    }

    private static void aNewObject() {
        DoubtCourt x = new DoubtCourt();
        int[] counts = {6, 4, 0, 0, 77, 0, 0, 0, 0};
        for (int what = 0; what < counts.length; what++) {
            Due.same("1: count(" + what + ")", x.count(what), counts[what]);
        }
        int[][] cast = {{0, NONE}, {1, 0}, {2, 1}, {0, 1}, {3, 2}, {1, 3}};
        for (int c = 0; c < cast.length; c++) {
            Due.same("1: kind of " + c, x.courtier(c, 0), cast[c][0]);
            Due.same("1: heeded by " + c, x.courtier(c, 1), cast[c][1]);
            Due.same("1: place of " + c, x.courtier(c, 2), c);
        }
        int[] at = {5, 3, 4, 5};
        String[] rows = {"036214", "550000", "909090", "444444"};
        for (int n = 0; n < at.length; n++) {
            Due.same("1: at whom " + n, x.news(n, 0), at[n]);
            for (int c = 0; c < 6; c++) {
                Due.same("1: belief " + c + " of " + n, x.belief(c, n), rows[n].charAt(c) - '0');
            }
        }
        Due.same("1: the text is empty", x.wipe(), 0);
        Due.same("1: nothing to lay", x.lay(), NO);
    }

    private static void write() {
        DoubtCourt x = new DoubtCourt();
        Due.same("2: 31", x.write(31), BAD);
        Due.same("2: 127", x.write(127), BAD);
        Due.same("2: least", x.write(Integer.MIN_VALUE), BAD);
        Due.same("2: greatest", x.write(Integer.MAX_VALUE), BAD);
        Due.same("2: 32", x.write(32), 1);
        Due.same("2: 126", x.write(126), 2);
        for (int i = 3; i <= 200; i++) {
            Due.same("2: letter " + i, x.write('c'), i);
        }
        Due.same("2: full", x.write('c'), FULL);
        Due.same("2: bad ahead of full", x.write(31), BAD);
        Due.same("2: how long", x.count(8), 200);
    }

    private static void wipe() {
        DoubtCourt x = new DoubtCourt();
        Due.write(x, "c0,9;!");
        Due.same("3: fault", x.fault(), 5);
        Due.same("3: wipe", x.wipe(), 6);
        Due.same("3: fault of nothing", x.fault(), NONE);
        Due.same("3: wipe again", x.wipe(), 0);
        Due.same("3: from the start", x.write('n'), 1);
        Due.same("3: fault", x.fault(), 0);
    }

    private static void faultless() {
        for (String text : new String[] {"", "c0,9;", "c3,6;", "c03,09;", "c00,00;", "c0,0;n0,0;", "c0,0;n00,9;",
            "c0,0;c0,0;n1,09;c0,0;n2,123;", "c0,0;c0,0;c0,0;c0,0;c0,0;c0,0;c0,0;n6,0123456;n06,9999999;",
            "c0,0;n0,0;n0,0;n0,0;n0,0;n0,0;n0,0;"}) {
            Due.faultOf(text, NONE);
        }
    }

    private static void faultyCourtiers() {
        String[] wrong = {"c4,0;", "c0,7;", "c0,8;", "c0,10;", "c10,0;", "c000,0;", "c0,009;", "c,0;", "c0,;", "c0;", "c0,0",
            "c0,0,", "c0,", "c0", "c", "C0,0;", " c0,0;", "c 0,0;", "c0,0 ;", "c-1,0;", "c0.0;", "x", ";", "~", "c0,0:"};
        for (String item : wrong) {
            Due.faultOf(item, 0);
            Due.faultOf("c1,9;" + item, 5);
            Due.faultOf("c1,9;n0,5;" + item + "c9,9;", 10);
        }
        Due.faultOf("c1,9;;", 5);
        String seven = "c0,0;c0,0;c0,0;c0,0;c0,0;c0,0;c0,0;";
        Due.faultOf(seven + "c0,0;", 35);
        Due.faultOf(seven + "n0,0000000;c0,0;", 46);
    }

    private static void faultyNews() {
        Due.faultOf("n0,;", 0);
        Due.faultOf("n0,0;c0,0;", 0);
        String[] wrong = {"n2,00;", "n0,0;", "n0,000;", "n0,;", "n,00;", "n0;", "n0,00", "n0,0,0;", "n000,00;", "n9,00;",
            "n0,0x;", "n10,00;", "n0,00 ;", "n", "n0", "n0,", "n0,00n0,00;", "n99,00;"};
        for (String item : wrong) {
            Due.faultOf("c0,0;c0,0;" + item, 10);
            Due.faultOf("c0,0;c0,0;n1,99;" + item + "c0,0;", 16);
        }
        Due.faultOf("c0,0;n1,0;c0,0;", 5);
        Due.faultOf("c0,0;n0,0;n0,0;n0,0;n0,0;n0,0;n0,0;n0,0;", 35);
    }

    private static void lay() {
        DoubtCourt x = Due.laid("c1,1;n0,5;c2,2;n1,34;");
        Due.same("5: courtiers", x.count(0), 2);
        Due.same("5: news", x.count(1), 2);
        Due.same("5: the text stays", x.count(8), 21);
        Due.same("5: heeds one told behind it", x.courtier(0, 1), 1);
        Due.same("5: heeds one that there is not", x.courtier(1, 1), NONE);
        Due.same("5: told later believe by 0", x.belief(1, 0), 0);
        Due.same("5: told ahead", x.belief(0, 0), 5);
        Due.same("5: both", x.belief(1, 1), 4);
        x.wipe();
        Due.write(x, "c0,0;");
        Due.same("5: no news", x.lay(), NO);
        Due.same("5: as it was", x.count(1), 2);
        x.wipe();
        Due.same("5: no text", x.lay(), NO);
        Due.write(x, "c0,0;n0,0");
        Due.same("5: a fault", x.lay(), NO);
        Due.same("5: as it was", x.courtier(0, 0), 1);
        x.write(';');
        Due.same("5: laid", x.lay(), 1);
        Due.same("5: itself is nobody", x.courtier(0, 1), NONE);
        Due.same("5: laid twice", x.lay(), 1);
    }

    private static void layClears() {
        DoubtCourt x = new DoubtCourt();
        x.pass(3);
        x.swap(0, 1);
        x.keep();
        x.see(9, 4);
        Due.same("5: no text to lay", x.lay(), NO);
        int[] before = {3, 1, 2, 1};
        for (int i = 0; i < 4; i++) {
            Due.same("5: stays", x.count(new int[] {2, 5, 6, 7}[i]), before[i]);
        }
        Due.write(x, "c0,0;n0,0;");
        Due.same("5: laid", x.lay(), 1);
        for (int what : new int[] {2, 3, 4, 5, 6, 7}) {
            Due.same("5: count(" + what + ")", x.count(what), 0);
        }
        Due.same("5: nothing undone", x.undo(), NO);
        Due.same("5: nothing kept", x.back(), NO);
        Due.same("5: nothing seen", x.which(), 1);
    }

    private static void courtier() {
        DoubtCourt x = Due.laid("c3,1;c2,9;n1,54;n0,49;n0,09;");
        int[][] want = {{3, 1, 0, 6, 6}, {2, NONE, 1, 1, 1}};
        for (int c = 0; c < 2; c++) {
            for (int what = 0; what < 5; what++) {
                Due.same("6: courtier(" + c + ", " + what + ")", x.courtier(c, what), want[c][what]);
            }
        }
        x.swap(0, 1);
        Due.same("6: place", x.courtier(0, 2), 1);
        Due.same("6: place", x.courtier(1, 2), 0);
        Due.same("6: heeds the same", x.courtier(0, 1), 1);
        Due.same("6: has the same", x.courtier(0, 3), 6);
        x.swap(0, 1);
        x.pass(1);
        Due.same("6: known is had by nobody", x.courtier(0, 3), 1);
        Due.same("6: and doubted, too", x.courtier(0, 4), 6);
        int[][] bad = {{-1, 0}, {2, 0}, {0, -1}, {0, 5}, {9, 9}, {Integer.MIN_VALUE, 0}, {1, Integer.MAX_VALUE}};
        for (int[] a : bad) {
            Due.same("6: courtier(" + a[0] + ", " + a[1] + ")", x.courtier(a[0], a[1]), BAD);
        }
    }

    private static void news() {
        DoubtCourt x = Due.laid("c2,9;c2,9;c2,9;n0,450;n2,999;");
        Due.same("7: at whom", x.news(0, 0), 0);
        Due.same("7: who doubts", x.news(0, 1), 5);
        Due.same("7: at whom", x.news(1, 0), 2);
        Due.same("7: nobody doubts", x.news(1, 1), 0);
        x.pass(1);
        Due.same("7: known", x.news(0, 0), 9);
        Due.same("7: known and doubted", x.news(0, 1), 5);
        int[][] bad = {{-1, 0}, {2, 0}, {0, -1}, {0, 2}, {Integer.MAX_VALUE, 1}, {0, Integer.MIN_VALUE}};
        for (int[] a : bad) {
            Due.same("7: news(" + a[0] + ", " + a[1] + ")", x.news(a[0], a[1]), BAD);
        }
    }

    private static void belief() {
        DoubtCourt x = Due.laid("c2,9;c2,9;n0,13;n0,79;");
        Due.same("8", x.belief(0, 0), 1);
        Due.same("8", x.belief(1, 0), 3);
        Due.same("8", x.belief(0, 1), 7);
        Due.same("8", x.belief(1, 1), 9);
        int[][] bad = {{-1, 0}, {2, 0}, {0, -1}, {0, 2}, {Integer.MIN_VALUE, 0}, {0, Integer.MAX_VALUE}};
        for (int[] a : bad) {
            Due.same("8: belief(" + a[0] + ", " + a[1] + ")", x.belief(a[0], a[1]), BAD);
        }
    }
}
