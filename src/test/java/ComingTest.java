/** Promises 14 to 21. */
public final class ComingTest {
    private static final int BAD = DoubtCourt.BAD, NO = DoubtCourt.NO, NONE = DoubtCourt.NONE;
    private static final String THREE_DRY = "c2,9;c2,9;c2,9;";

    public static void main(String[] args) {
        behind();
        comes();
        first();
        hush();
        hushNone();
        loose();
        hushAndLooseRefuse();
        sooner();
        offices();
        officesRefuse();
        mute();
        nothingIsChanged();
        Due.end("ComingTest");
    }

    private static void behind() {
        DoubtCourt x = Due.laid("c2,9;c3,9;c2,9;n2,090;");
        int[] at = {2, 1, 0, 9, 9};
        x.prove(1, 0, -5);
        int[] aunt = {4, 4, 3, 3, 3};
        for (int days = 0; days < at.length; days++) {
            Due.same("14: at whom behind " + days, x.behind(days, 0, -1), at[days]);
            Due.same("14: belief behind " + days, x.behind(days, 0, 1), aunt[days]);
        }
        Due.same("14: behind 40", x.behind(40, 0, -1), 9);
        int[][] bad = {{-1, 0, 0}, {41, 0, 0}, {0, -1, 0}, {0, 1, 0}, {0, 0, -2}, {0, 0, 3}, {0, 0, 9},
            {Integer.MAX_VALUE, 0, 0}, {0, Integer.MIN_VALUE, 0}, {0, 0, Integer.MIN_VALUE}};
        for (int[] a : bad) {
            Due.same("14: behind(" + a[0] + ", " + a[1] + ", " + a[2] + ")", x.behind(a[0], a[1], a[2]), BAD);
        }
        for (int i = 0; i < 41; i++) {
            x.pass(24);
        }
        x.pass(15);
        Due.same("14: the 999 days bind those that go by", x.behind(40, 0, 0), 0);
    }

    private static void comes() {
        DoubtCourt x = Due.laid(THREE_DRY + "n2,000;n0,000;n1,900;n1,555;");
        int[] want = {3, 1, NONE, NONE};
        for (int n = 0; n < want.length; n++) {
            Due.same("15: comes(" + n + ")", x.comes(n), want[n]);
        }
        x.pass(1);
        Due.same("15: a day less", x.comes(0), 2);
        Due.same("15: known", x.comes(1), 0);
        Due.same("15: BAD", x.comes(-1), BAD);
        Due.same("15: BAD", x.comes(4), BAD);
        Due.same("15: BAD", x.comes(Integer.MAX_VALUE), BAD);
        DoubtCourt aunt = Due.laid("c3,9;c2,9;n1,99;");
        Due.same("15: when the aunt has come to doubt", aunt.comes(0), 7);
        DoubtCourt slow = Due.laid("c3,9;c0,2;c0,0;c0,5;c0,1;c0,6;c0,4;n1,9010000;");
        Due.same("15: by aunt and row of plain ones, among the latest that come", slow.comes(0), 31);
        Due.same("15: not known a day ahead of it", slow.behind(30, 0, -1), 0);
        Due.same("15: known then", slow.behind(31, 0, -1), 9);
        Due.same("15: of the first court", new DoubtCourt().comes(3), 6);
    }

    private static void first() {
        DoubtCourt x = Due.laid("c2,9;c2,9;n1,00;n0,00;n0,00;");
        Due.same("16: the lowest of two", x.first(), 1);
        x.pass(1);
        Due.same("16: whatever was asked ahead", x.behind(1, 0, -1), 9);
        Due.same("16: of what is not known", x.first(), 0);
        x.pass(1);
        Due.same("16: all is known", x.first(), NONE);
        Due.same("16: none comes", Due.laid("c2,9;c2,9;n1,90;n0,99;").first(), NONE);
        Due.same("16: one comes", Due.laid("c2,9;c2,9;n1,90;n0,99;n1,00;").first(), 2);
    }

    private static void sets(String promise, int[] got, int size, int set) {
        Due.same(promise + ": how many", got[0], size);
        Due.same(promise + ": which", got[1], set);
    }

    private static int[] hushOf(DoubtCourt x, int n, int days) {
        return new int[] {x.hush(n, days, 0), x.hush(n, days, 1)};
    }

    private static int[] looseOf(DoubtCourt x, int n, int days) {
        return new int[] {x.loose(n, days, 0), x.loose(n, days, 1)};
    }

    private static void hush() {
        DoubtCourt x = Due.laid(THREE_DRY + "n2,000;");
        sets("17", hushOf(x, 0, 2), 0, 0);
        sets("17", hushOf(x, 0, 3), 1, 1);
        sets("17", hushOf(x, 0, 20), 1, 1);
        DoubtCourt y = Due.laid(THREE_DRY + "n0,000;");
        sets("17: of several the lowest", hushOf(y, 0, 1), 1, 1);
        x.swap(0, 2);
        sets("17: by who is next to the king", hushOf(x, 0, 3), 1, 4);
    }

    private static void hushNone() {
        // two aunts come to doubt it whoever is told what, by day 12 at the latest
        DoubtCourt x = Due.laid("c3,9;c3,9;n1,00;");
        sets("17", hushOf(x, 0, 1), 0, 0);
        sets("17", hushOf(x, 0, 2), 1, 1);
        sets("17", hushOf(x, 0, 11), 1, 1);
        sets("17: none", hushOf(x, 0, 12), NONE, NONE);
    }

    private static void loose() {
        DoubtCourt x = Due.laid(THREE_DRY + "n2,999;n2,499;n2,999;");
        sets("18", looseOf(x, 0, 1), NONE, NONE);
        sets("18", looseOf(x, 0, 2), 1, 1);
        sets("18", looseOf(x, 0, 20), 1, 1);
        sets("18: none need doubt", looseOf(x, 1, 2), 0, 0);
        sets("18: too soon for any", looseOf(x, 1, 1), NONE, NONE);
        DoubtCourt y = Due.laid("c2,9;c2,9;n1,95;n0,99;");
        sets("18", looseOf(y, 1, 1), 1, 1);
        y.swap(0, 1);
        sets("18: by place", looseOf(y, 0, 1), 1, 2);
        DoubtCourt z = Due.laid("c0,1;c2,9;n1,39;");
        sets("18: the plain one doubts it long enough", looseOf(z, 0, 3), 0, 0);
        z.prove(0, 0, 1);
        sets("18: the plain one must doubt it more", looseOf(z, 0, 3), 1, 1);
    }

    private static void hushAndLooseRefuse() {
        DoubtCourt x = Due.laid(THREE_DRY + "n2,000;n0,000;");
        x.pass(1);
        Due.same("17: known", x.hush(1, 1, 0), NO);
        Due.same("17: known", x.hush(1, 20, 1), NO);
        Due.same("18: known", x.loose(1, 1, 0), NO);
        Due.same("18: known", x.loose(1, 20, 1), NO);
        int[][] bad = {{-1, 1, 0}, {2, 1, 0}, {0, 0, 0}, {0, 21, 0}, {0, 1, -1}, {0, 1, 2}, {1, 0, 0}, {1, 21, 0}, {1, 1, 2},
            {Integer.MIN_VALUE, 1, 0}, {0, Integer.MAX_VALUE, 0}, {0, 1, Integer.MIN_VALUE}};
        for (int[] a : bad) {
            Due.same("17: hush(" + a[0] + ", " + a[1] + ", " + a[2] + ")", x.hush(a[0], a[1], a[2]), BAD);
            Due.same("18: loose(" + a[0] + ", " + a[1] + ", " + a[2] + ")", x.loose(a[0], a[1], a[2]), BAD);
        }
    }

    private static void soonerIs(String text, int n, int pair, int days) {
        DoubtCourt x = Due.laid(text);
        Due.same("19: who, of " + text, x.sooner(n, 0), pair);
        Due.same("19: days, of " + text, x.sooner(n, 1), days);
    }

    private static void sooner() {
        soonerIs(THREE_DRY + "n2,000;", 0, 2, 1);
        soonerIs(THREE_DRY + "n1,000;", 0, 1, 1);
        soonerIs(THREE_DRY + "n0,000;", 0, NONE, NONE);
        soonerIs(THREE_DRY + "n0,999;", 0, NONE, NONE);
        soonerIs("c2,9;c2,9;n1,90;", 0, 1, 1);
        // handed on by who has it to the one who doubts it, who has to be next to the king then
        soonerIs(THREE_DRY + "n2,909;", 0, 1, 2);
        soonerIs(THREE_DRY + "c2,9;n1,9909;", 0, 2, 2);
        soonerIs(THREE_DRY + "c2,9;n1,9999;n3,9900;", 1, 3, 1);
        soonerIs("c0,1;c2,9;c2,9;n2,399;", 0, NONE, NONE);
        soonerIs("c0,1;c2,9;c2,9;n1,944;", 0, 1, 1);
        DoubtCourt x = Due.laid(THREE_DRY + "n2,000;n0,000;");
        x.pass(1);
        Due.same("19: known", x.sooner(1, 0), NO);
        Due.same("19: known", x.sooner(1, 1), NO);
        x.swap(0, 2);
        Due.same("19: the pair with the lower first", x.sooner(0, 0), 12);
        Due.same("19: days", x.sooner(0, 1), 1);
        int[][] bad = {{-1, 0}, {2, 0}, {0, -1}, {0, 2}, {1, 2}, {Integer.MAX_VALUE, 0}, {0, Integer.MIN_VALUE}};
        for (int[] a : bad) {
            Due.same("19: sooner(" + a[0] + ", " + a[1] + ")", x.sooner(a[0], a[1]), BAD);
        }
    }

    private static void officesAre(String text, int given, int[] to) {
        DoubtCourt x = Due.laid(text);
        Due.same("20: how many, of " + text, x.offices(-1), given);
        for (int n = 0; n < to.length; n++) {
            Due.same("20: to whom " + n + ", of " + text, x.offices(n), to[n]);
        }
    }

    private static void offices() {
        officesAre(THREE_DRY + "n0,009;n0,099;n0,009;", 2, new int[] {0, NONE, 1});
        officesAre(THREE_DRY + "n0,009;n0,099;", 2, new int[] {1, 0});
        officesAre(THREE_DRY + "n0,000;n0,000;n0,000;n0,000;", 3, new int[] {0, 1, 2, NONE});
        officesAre(THREE_DRY + "n0,999;n0,559;", 0, new int[] {NONE, NONE});
        officesAre(THREE_DRY + "n0,990;n0,909;n0,044;", 3, new int[] {2, 1, 0});
        officesAre(THREE_DRY + "n0,999;n0,440;n0,994;", 2, new int[] {NONE, 0, 2});
        officesAre("c2,9;c2,9;c2,9;c2,9;c2,9;c2,9;c2,9;n0,0000000;n0,0000000;n0,0000000;n0,0000000;n0,0000000;n0,0999999;",
                6, new int[] {1, 2, 3, 4, 5, 0});
    }

    private static void officesRefuse() {
        DoubtCourt x = Due.laid("c2,9;c2,9;n0,00;n1,00;");
        x.pass(1);
        Due.same("20: known is not given", x.offices(-1), 1);
        Due.same("20: known", x.offices(0), NONE);
        Due.same("20: the other takes the lowest", x.offices(1), 0);
        x.prove(0, 1, 9);
        Due.same("20: by doubts now", x.offices(1), 1);
        for (int n : new int[] {-2, 2, Integer.MIN_VALUE, Integer.MAX_VALUE}) {
            Due.same("20: offices(" + n + ")", x.offices(n), BAD);
        }
    }

    private static void mute() {
        DoubtCourt x = Due.laid("c2,9;c2,9;n0,95;n1,99;n0,45;n0,55;n0,09;");
        Due.same("21: mute", x.mute(), 11);
        x.pass(1);
        Due.same("21: known is not mute", x.prove(0, 2, 5) * 100 + x.mute(), 911);
        x.prove(1, 0, -1);
        Due.same("21: doubted is not mute", x.mute(), 10);
        Due.same("21: none", Due.laid("c2,9;n0,4;").mute(), 0);
    }

    private static void nothingIsChanged() {
        DoubtCourt x = new DoubtCourt();
        for (int n = 0; n < 4; n++) {
            x.behind(40, n, 0);
            x.comes(n);
            x.hush(n, 20, 0);
            x.loose(n, 20, 1);
            x.sooner(n, 0);
            x.offices(n);
        }
        x.first();
        x.mute();
        int[] counts = {6, 4, 0, 0, 77, 0, 0, 0, 0};
        for (int what = 0; what < counts.length; what++) {
            Due.same("14 to 21: count(" + what + ")", x.count(what), counts[what]);
        }
        int[] at = {5, 3, 4, 5};
        for (int n = 0; n < 4; n++) {
            Due.same("14 to 21: at whom", x.news(n, 0), at[n]);
        }
        for (int c = 0; c < 6; c++) {
            Due.same("14 to 21: place", x.courtier(c, 2), c);
        }
    }
}
