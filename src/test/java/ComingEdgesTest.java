/** Promises 14 to 21 at their edges: the bound, the first number beyond it, the empty, the full, what is refused. */
public final class ComingEdgesTest {
    private static final String SEVEN_DRY = "c2,9;c2,9;c2,9;c2,9;c2,9;c2,9;c2,9;";
    /** Known behind 31 days: none comes later (NOTES.md tells why), so a bound of 60 and one of 61 are alike. */
    private static final String SLOW = "told c3,9;c0,2;c0,0;c0,5;c0,1;c0,6;c0,4;n1,9010000;\n";

    public static void main(String[] args) {
        behind();
        behindBeyond999();
        behindIsWhatPasses();
        comes();
        first();
        hushAndLooseRefuse();
        hushByDays();
        hushOfMany();
        hushOfAllSeven();
        hushOfSeveral();
        loose();
        looseOfMany();
        soonerRefuses();
        sooner();
        offices();
        officesInOrder();
        mute();
        Due.end("ComingEdgesTest");
    }

    private static void behind() {
        Script.play("14", """
            told c2,9;c3,9;n1,94;n0,44;
            behind 0 0 -1 ~ 1
            behind 1 0 -1 ~ 0
            behind 0 0 0 ~ 9
            behind 0 0 1 ~ 4
            behind 1|2 0 1 ~ 3
            behind 3|4 0 1 ~ 2
            behind 7|8|39|40 0 1 ~ 0
            behind 39 0 -1 ~ 0
            behind 40 0 -1 ~ 1
            behind 0 1 -1 ~ 0
            behind 1|2|40 1 -1 ~ 9
            behind 0|1|40 1 1 ~ 4
            behind -1|41|-40|MIN|MAX 0 -1|0|1 ~ BAD
            behind 0|40 -1|2|6|MIN|MAX -1|0 ~ BAD
            behind 0|40 0 -2|2|7|9|MIN|MAX ~ BAD
            behind 41 2 2 ~ BAD
            """);
        Script.play("14: seven and six", "told " + SEVEN_DRY + "n0,9999999;n0,9999999;n0,9999999;n0,9999999;n0,9999999;"
                + "n0,9999990;\n" + """
            behind 1 5 -1 ~ 6
            behind 2 5 -1 ~ 5
            behind 40 5 6 ~ 0
            behind 40 5 5 ~ 9
            behind 0 6 -1 ~ BAD
            behind 0 5 7 ~ BAD
            """);
        Script.play("14: by 40 days what took the longest has come", SLOW + """
            behind 30 0 -1 ~ 0
            behind 31|32|40 0 -1 ~ 9
            """);
    }

    private static void behindBeyond999() {
        Script.play("14: nothing being done, the 999 days bind nothing", """
            told c2,9;c2,9;n1,90;n1,95;n1,99;
            pass 24 = 0 x 41
            pass 15 = 0
            pass 1 ~ NO
            behind 40 0 -1 ~ 0
            behind 39 0 -1 ~ 1
            prove 0 0 -9 = 0
            behind 1 0 -1 ~ 9
            comes 0 ~ 1
            comes 1 ~ NONE
            first ~ 0
            hush 0 20 1 ~ 1
            loose 1 2 1 ~ 1
            tongues 1 3 5 0 ~ 1
            tongues 1 3 5 1 ~ 4
            prove 1 1 -9 = 0
            comes 1 ~ NONE
            sooner 1 0|1 ~ 1
            """);
    }

    private static void behindIsWhatPasses() {
        String court = "told c1,1;c0,3;c3,0;c2,9;n3,5393;n2,4489;n1,9950;\n";
        for (int days = 1; days <= 40; days++) {
            DoubtCourt asked = Due.laid(court.substring(5).strip());
            DoubtCourt lived = Due.laid(court.substring(5).strip());
            lived.pass(Math.min(24, days));
            if (days > 24) {
                lived.pass(days - 24);
            }
            for (int n = 0; n < 3; n++) {
                Due.same("14: at whom behind " + days, asked.behind(days, n, -1), lived.news(n, 0));
                for (int c = 0; c < 4; c++) {
                    Due.same("14: belief behind " + days, asked.behind(days, n, c), lived.belief(c, n));
                }
            }
        }
    }

    private static void comes() {
        Script.play("15", """
            told c2,9;c2,9;n0,09;n1,00;n1,90;n0,55;n0,90;
            comes 0 ~ 1
            comes 1 ~ 2
            comes 2|3|4 ~ NONE
            comes -1|5|6|MIN|MAX ~ BAD
            pass 1 = 1
            comes 0 ~ 0
            comes 1 ~ 1
            pass 24 = 2
            comes 0|1 ~ 0
            comes 2 ~ NONE
            """);
        Script.play("15: late", SLOW + """
            comes 0 ~ 31
            pass 1 = 0
            comes 0 ~ 30
            pass 24 = 0
            comes 0 ~ 6
            pass 5 = 0
            comes 0 ~ 1
            pass 1 = 1
            comes 0 ~ 0
            pass 24 = 1
            comes 0 ~ 0
            """);
        Script.play("15: six news", "told c2,9;n0,5;n0,5;n0,5;n0,5;n0,5;n0,4;\ncomes 5 ~ 1\ncomes 6 ~ BAD\ncomes 0 ~ NONE");
    }

    private static void first() {
        Script.play("16: of several the lowest", """
            told c2,9;c2,9;n0,90;n1,00;n0,00;n1,00;n0,04;n1,94;
            first ~ 2
            pass 1 = 2
            first ~ 1
            hand 1 1 = 0
            first ~ 3
            pass 1 = 3
            first ~ 1
            pass 2 = 4
            first ~ NONE
            """);
        Script.play("16: none comes", "told c2,9;c2,9;n0,90;n1,55;\nfirst ~ NONE");
        Script.play("16: the last one alone", "told c2,9;n0,5;n0,5;n0,5;n0,5;n0,5;n0,4;\nfirst ~ 5\npass 1 = 1\nfirst ~ NONE");
        Script.play("16: none of known news", "told c2,9;n0,4;\nfirst ~ 0\npass 1 = 1\nfirst ~ NONE\ncomes 0 ~ 0");
        Script.play("16: late", SLOW + "first ~ 0\npass 24 = 0\nfirst ~ 0\npass 7 = 1\nfirst ~ NONE");
    }

    private static void hushAndLooseRefuse() {
        for (String call : new String[] {"hush", "loose"}) {
            Script.play("17, 18", ("""
                told c2,9;c2,9;n0,40;n1,55;
                CALL 0 0|21|-1|-20|MIN|MAX 0|1 ~ BAD
                CALL 0 1|20 -1|2|MIN|MAX ~ BAD
                CALL -1|2|6|MIN|MAX 1|20 0|1 ~ BAD
                CALL 2 21 2 ~ BAD
                pass 1 = 1
                CALL 0 1|20 0|1 ~ NO
                CALL 0 0|21 0 ~ BAD
                CALL 0 1 -1|2 ~ BAD
                """).replace("CALL", call));
        }
        Script.play("17: NO is ahead of NONE", """
            told c3,9;c3,9;n1,00;
            hush 0 12|20 0|1 ~ NONE
            pass 2 = 1
            hush 0 12|20 0|1 ~ NO
            """);
        Script.play("18: NO is ahead of NONE", """
            told c2,9;c2,9;n1,44;
            loose 0 1 0|1 ~ NONE
            pass 2 = 1
            loose 0 1 0|1 ~ NO
            """);
    }

    /** At 1 and at 20 days, by what comes on that day and by what comes a day later. */
    private static void hushByDays() {
        Script.play("17, 18: 1 day", """
            told c2,9;c2,9;n0,04;n1,44;
            hush 0 1 0 ~ 1
            hush 0 1 1 ~ 1
            loose 0 1 0|1 ~ 0
            hush 1 1 0|1 ~ 0
            loose 1 1 0|1 ~ NONE
            loose 1 2 0|1 ~ 0
            """);
        // next to the king is a dry one: that one convinced, it is never known
        Script.play("17, 18: 20 days", """
            told c2,9;c0,4;c0,1;c0,6;c0,5;c0,2;c0,4;n6,1610000;
            comes 0 ~ 26
            pass 5 = 0
            comes 0 ~ 21
            hush 0 20 0|1 ~ 0
            loose 0 20 0 ~ 1
            pass 1 = 0
            comes 0 ~ 20
            hush 0 19 0|1 ~ 0
            hush 0 20 0|1 ~ 1
            loose 0 20 0|1 ~ 0
            loose 0 19 0 ~ 1
            """);
    }

    private static void hushOfMany() {
        // an aunt next to the king, who has it: whoever doubts it takes it from her and gives it back when she doubts it, too
        Script.play("17: both", """
            told c3,9;c2,9;n0,00;
            hush 0 1|10 0|1 ~ 1
            hush 0 11|20 0 ~ 2
            hush 0 11|20 1 ~ 3
            """);
        Script.play("17: all three", """
            told c3,9;c2,9;c2,9;n0,000;
            hush 0 10 0|1 ~ 1
            hush 0 11|20 0 ~ 3
            hush 0 11|20 1 ~ 7
            """);
        Script.play("17: three of seven: from the third the nearest who doubts is the fourth", """
            told c3,9;c2,9;c2,9;c2,9;c2,9;c2,9;c2,9;n0,0000000;
            hush 0 20 0 ~ 3
            hush 0 20 1 ~ 7
            """);
        Script.play("17: one alone", """
            told c2,9;n0,4;
            hush 0 1|20 0|1 ~ 1
            told c2,9;n0,5;
            hush 0 1|20 0|1 ~ 0
            """);
    }

    /** Four aunts, a hopeful one and a plain one: found by a search of its own. */
    private static void hushOfAllSeven() {
        Script.play("17: all seven", """
            told c3,6;c3,6;c2,1;c3,2;c1,2;c3,2;c0,3;n0,4427463;
            hush 0 12 0 ~ 7
            hush 0 12 1 ~ 127
            """);
        Script.play("18: five of seven", """
            told c1,5;c2,9;c1,1;c1,3;c2,1;c1,6;c0,1;n6,7859497;
            loose 0 13 0 ~ 5
            """);
    }

    private static void hushOfSeveral() {
        // either who is next to the king, or the one but for whom it goes down, not up
        String court = "told " + SEVEN_DRY + "n5,0000090;\n";
        Script.play("17: of several the lowest as bits", court + """
            hush 0 5 0|1 ~ 0
            hush 0 6|20 0|1 ~ 1
            swap 0 6 = 6
            hush 0 5 0 ~ 0
            hush 0 6|20 0 ~ 1
            hush 0 6|20 1 ~ 16
            """);
    }

    private static void loose() {
        Script.play("18", """
            told c2,9;c2,9;c2,9;n2,999;n0,999;n2,944;
            loose 0 1 0|1 ~ NONE
            loose 0 2|20 0|1 ~ 1
            loose 1 1 0|1 ~ 1
            loose 2 2 0|1 ~ NONE
            loose 2 3 0|1 ~ 1
            hush 0|1|2 1|20 0|1 ~ 0
            """);
        Script.play("18: doubt it more", """
            told c0,1;c2,9;c2,9;n2,399;
            loose 0 2 0|1 ~ 0
            prove 0 0 1 = 4
            loose 0 2 0|1 ~ 1
            """);
        Script.play("18: one alone", """
            told c2,9;n0,5;
            loose 0 1|20 0|1 ~ 1
            told c2,9;n0,4;
            loose 0 1|20 0|1 ~ 0
            """);
    }

    private static void looseOfMany() {
        // the last one takes it down from the one ahead, unless one who doubts it is as near further up, again and again
        Script.play("18: three of seven", "told " + SEVEN_DRY + "n5,9999990;\n" + """
            loose 0 5 0|1 ~ NONE
            loose 0 6|20 0 ~ 3
            loose 0 6|20 1 ~ 21
            prove 2 0 -9 = 0
            loose 0 6 0 ~ 2
            loose 0 6 1 ~ 17
            prove 4 0 -9 = 0
            loose 0 6 0|1 ~ 1
            prove 0 0 -9 = 0
            loose 0 6 0|1 ~ 0
            loose 0 5 0|1 ~ NONE
            """);
        Script.play("18: of several the lowest as bits", """
            told c2,9;c2,9;c2,9;n0,999;
            swap 0 2 = 2
            hand 0 1 = 0
            loose 0 2 0 ~ 1
            loose 0 2 1 ~ 4
            prove 2 0 -5 = 4
            loose 0 2 0|1 ~ 0
            """);
    }

    private static void soonerRefuses() {
        Script.play("19", """
            told c2,9;c2,9;n0,40;n1,95;
            sooner 0|1 -1|2|9|MIN|MAX ~ BAD
            sooner -1|2|6|MIN|MAX 0|1 ~ BAD
            sooner 2 2 ~ BAD
            sooner 0|1 0|1 ~ NONE
            pass 1 = 1
            sooner 0 0|1 ~ NO
            sooner 0 -1|2 ~ BAD
            """);
        Script.play("19: one alone", "told c2,9;n0,5;n0,4;\nsooner 0|1 0|1 ~ NONE");
    }

    private static void sooner() {
        Script.play("19: the last two", "told " + SEVEN_DRY + "n6,9999990;\n" + """
            sooner 0 0 ~ 6
            sooner 0 1 ~ 1
            swap 0 5 = 5
            sooner 0 0 ~ 56
            sooner 0 1 ~ 1
            swap 5 6 = 6
            sooner 0 0|1 ~ NONE
            """);
        Script.play("19: of several the first, by the other one", "told " + SEVEN_DRY + "n1,9999900;\n" + """
            comes 0 ~ NONE
            sooner 0 0 ~ 5
            sooner 0 1 ~ 2
            swap 0 4 = 4
            sooner 0 0 ~ 45
            sooner 0 1 ~ 2
            """);
        Script.play("19: of several the first, by the lower one", "told " + SEVEN_DRY + "n1,9909909;\n" + """
            swap 0 6 = 6
            sooner 0 0 ~ 26
            sooner 0 1 ~ 2
            """);
        Script.play("19: of several the first, by the lower one ahead of the other", """
            told c2,9;c2,9;c2,9;c2,9;c2,9;n2,99900;
            swap 0 4 = 4
            comes 0 ~ NONE
            sooner 0 0 ~ 3
            sooner 0 1 ~ 2
            swap 1 2 = 2
            comes 0 ~ 2
            """);
        Script.play("19: the soonest, not the first", """
            told c2,9;c2,9;c2,9;c2,9;n3,9009;
            sooner 0 0 ~ 2
            sooner 0 1 ~ 3
            swap 0 1 = 1
            comes 0 ~ 4
            sooner 0 0 ~ 3
            sooner 0 1 ~ 2
            """);
        Script.play("19: as soon is not sooner", """
            told c2,9;c2,9;c2,9;n1,999;n1,099;n0,000;
            sooner 0 0|1 ~ NONE
            comes 1 ~ 2
            sooner 1 0|1 ~ NONE
            sooner 2 0|1 ~ NONE
            """);
        Script.play("19: late", SLOW + "comes 0 = 31\nsooner 0 0 ~ 1\nsooner 0 1 ~ 1");
    }

    private static void offices() {
        Script.play("20", """
            told c2,9;c2,9;n0,40;n1,54;n0,59;
            offices -1 ~ 2
            offices 0 ~ 0
            offices 1 ~ 1
            offices 2 ~ NONE
            offices -2|3|6|MIN|MAX ~ BAD
            pass 1 = 1
            offices -1 ~ 1
            offices 0 ~ NONE
            offices 1 ~ 1
            """);
        Script.play("20: one alone", """
            told c2,9;n0,5;n0,4;n0,4;
            offices -1 ~ 1
            offices 0|2 ~ NONE
            offices 1 ~ 0
            pass 1 = 2
            offices -1 ~ 0
            offices 0|1|2 ~ NONE
            prove 0 0 -1 = 4
            offices -1 ~ 1
            offices 0 ~ 0
            """);
        Script.play("20: six news, each to one alone", "told " + SEVEN_DRY + "n0,9999990;n0,9999909;n0,9999099;n0,9990999;"
                + "n0,9909999;n0,9099999;\n" + """
            offices -1 ~ 6
            offices 0 ~ 6
            offices 1 ~ 5
            offices 2 ~ 4
            offices 3 ~ 3
            offices 4 ~ 2
            offices 5 ~ 1
            offices 6 ~ BAD
            """);
        Script.play("20: nobody doubts", "told " + SEVEN_DRY + "n0,5555555;n6,9999999;\noffices -1 ~ 0\noffices 0|1 ~ NONE");
        Script.play("20: all doubt all", "told " + SEVEN_DRY + "n0,4444444;n1,0000000;n2,0000000;n3,0000000;n4,0000000;"
                + "n5,0000000;\n" + """
            offices -1 ~ 6
            offices 0 ~ 0
            offices 3 ~ 3
            offices 5 ~ 5
            """);
    }

    private static void officesInOrder() {
        Script.play("20: the lowest for 0 only if as many are given", """
            told c2,9;c2,9;c2,9;n0,009;n0,099;n0,990;
            offices -1 ~ 3
            offices 0 ~ 1
            offices 1 ~ 0
            offices 2 ~ 2
            """);
        Script.play("20: a chain of three", """
            told c2,9;c2,9;c2,9;c2,9;n0,0099;n0,9009;n0,0990;n0,0999;
            offices -1 ~ 4
            offices 0 ~ 1
            offices 1 ~ 2
            offices 2 ~ 3
            offices 3 ~ 0
            """);
        Script.play("20: nobody behind all: the later goes without", """
            told c2,9;c2,9;n0,09;n0,09;n0,90;n0,90;
            offices -1 ~ 2
            offices 0 ~ 0
            offices 1 ~ NONE
            offices 2 ~ 1
            offices 3 ~ NONE
            """);
        Script.play("20: known news takes nobody", """
            told c2,9;c2,9;n0,00;n0,55;n1,04;n1,59;
            pass 1 = 1
            offices -1 ~ 1
            offices 0|1|3 ~ NONE
            offices 2 ~ 0
            swap 0 1 = 1
            offices 2 ~ 0
            """);
    }

    private static void mute() {
        Script.play("21", """
            told c2,9;c2,9;n0,55;n1,54;n0,45;n0,99;n1,55;n0,59;
            mute ~ 57
            prove 0 0 -1 = 4
            mute ~ 56
            prove 0 0 1 = 5
            mute ~ 57
            """);
        Script.play("21: all six", "told c2,9;n0,5;n0,6;n0,7;n0,8;n0,9;n0,5;\nmute ~ 63");
        Script.play("21: none", "told c2,9;n0,4;n0,0;\nmute ~ 0\npass 1 = 2\nmute ~ 0\nprove 0 0 9 = 9\nmute ~ 0");
        Script.play("21: an aunt comes to doubt it", """
            told c2,9;c3,9;n0,96;n1,99;
            mute ~ 3
            pass 1 = 0
            mute ~ 3
            pass 1 = 0
            mute ~ 2
            """);
    }
}
