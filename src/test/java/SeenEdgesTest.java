/** Promises 22 to 25 at their edges: the bound, the first number beyond it, the empty, the full, what is refused. */
public final class SeenEdgesTest {
    private static final String SEVEN_DRY = "c2,9;c2,9;c2,9;c2,9;c2,9;c2,9;c2,9;";
    private static final String SIX_SEEN = "see 0 0 = 1\nsee 1 20 = 2\nsee 9 20 = 3\nsee 0 0 = 4\nsee 9 0 = 5\nsee 1 7 = 6\n";

    public static void main(String[] args) {
        see();
        seeFull();
        forget();
        nothingSeen();
        whichByDays();
        whichByWho();
        whichByAllThatIsSeen();
        fromTheDayOnWhichItIsAsked();
        seenBeyond999();
        kindsRefuse();
        kindsOfEach();
        kindsOfKnownNews();
        Due.end("SeenEdgesTest");
    }

    private static void see() {
        Script.play("22", """
            told c2,9;c2,9;n0,55;
            see -1|2|6|7|8|10|MIN|MAX 0|20 ~ BAD
            see 0|1|9 -1|21|-20|MIN|MAX ~ BAD
            see 2 21 ~ BAD
            count 5 ~ 0
            see 9 20 = 1
            see 0 0 = 2
            see 1 20 = 3
            see 2 0 ~ BAD
            see 9 21 ~ BAD
            count 5 ~ 3
            """);
        Script.play("22: seven", "told " + SEVEN_DRY + "n6,5555555;\n" + """
            see 7|8|10|-1 0 ~ BAD
            see 6 0 = 1
            see 6 20 = 2
            which ~ 1
            """);
        Script.play("22: one", "told c2,9;n0,5;\nsee 1 0 ~ BAD\nsee 0 20 = 1\nsee 9 0 = 2");
    }

    private static void seeFull() {
        Script.play("22: six", "told c2,9;c2,9;n0,55;\n" + SIX_SEEN + """
            see 0|1|9 0|20 ~ FULL
            see 2|-1|10 0 ~ BAD
            see 0|9 -1|21 ~ BAD
            count 5 ~ 6
            forget = 6
            see 0 0 = 1
            """);
    }

    private static void forget() {
        Script.play("23", "told c2,9;c2,9;n0,55;\n" + """
            forget ~ 0
            see 9 0 = 1
            forget = 1
            forget ~ 0
            """ + SIX_SEEN + """
            forget = 6
            count 5 = 0
            forget ~ 0
            which ~ 1
            """ + SIX_SEEN);
        Script.play("23: nothing else changes", """
            told c2,9;c2,9;n1,50;
            pass 3 = 0
            keep = 1
            see 9 2 = 1
            forget = 1
            count 2 = 3
            count 6 = 1
            count 7 = 1
            count 8 = 16
            """);
    }

    private static void nothingSeen() {
        Script.play("24, 25: nothing seen contradicts nothing", """
            told c2,9;c1,0;n0,00;n1,99;n0,55;n0,40;n1,05;n0,09;
            which ~ 63
            kinds 0|1 0|1|2|3|4|5 ~ 15
            pass 2 = 4
            which ~ 63
            kinds 0|1 0|1|2|3|4|5 ~ 15
            """);
    }

    private static void whichByDays() {
        Script.play("24: behind 0 days and 20", """
            told c2,9;c2,9;n0,90;n1,90;n0,99;n1,00;
            see 0 0 = 1
            which ~ 5
            forget = 1
            see 1 0 = 1
            which ~ 10
            see 1 20 = 2
            which ~ 2
            forget = 2
            see 0 20 = 1
            which ~ 5
            see 0 19 = 2
            which ~ 4
            forget = 2
            see 9 1 = 1
            which ~ 0
            see 9 2 = 2
            which ~ 0
            forget = 2
            see 9 2 = 1
            which ~ 8
            """);
        // the dry one next to the king carries it to him behind 26 days
        Script.play("24: known behind 20 days, not behind 19", """
            told c2,9;c0,4;c0,1;c0,6;c0,5;c0,2;c0,4;n6,1610000;
            see 9 20 = 1
            which ~ 0
            pass 5 = 0
            comes 0 ~ 21
            which ~ 0
            pass 1 = 0
            comes 0 ~ 20
            which ~ 1
            see 9 19 = 2
            which ~ 0
            """);
    }

    private static void whichByWho() {
        for (int c = 0; c < 7; c++) {
            Script.play("24: at " + c, "told " + SEVEN_DRY + "n0,9999999;n2,9999999;n3,9999999;n4,9999999;n5,9999999;n6,9999999;\n"
                    + "see " + c + " 20 = 1\nwhich ~ " + (c == 1 ? 0 : c == 0 ? 1 : 1 << c - 1));
        }
        Script.play("24: at a courtier, not at a place", """
            told c2,9;c2,9;n0,99;n1,99;
            swap 0 1 = 1
            see 0 0 = 1
            which ~ 1
            """);
    }

    private static void whichByAllThatIsSeen() {
        Script.play("24: one NEWS, always the same", """
            told c2,9;c2,9;c2,9;n2,000;n1,000;n0,000;
            see 1 1 = 1
            see 0 2 = 2
            which ~ 1
            see 2 0 = 3
            see 9 3 = 4
            see 9 20 = 5
            which ~ 1
            see 9 2 = 6
            which ~ 0
            forget = 6
            see 0 1 = 1
            which ~ 2
            see 1 1 = 2
            which ~ 0
            """);
        Script.play("24: the sixth counts as the first", "told c2,9;n0,5;\n" + """
            see 0 1 = 1
            see 0 2 = 2
            see 0 3 = 3
            see 0 4 = 4
            see 0 5 = 5
            which ~ 1
            see 9 6 = 6
            which ~ 0
            kinds 0 0 ~ 0
            """);
    }

    private static void fromTheDayOnWhichItIsAsked() {
        Script.play("24: days, proofs, news handed, places that were changed count", """
            told c2,9;c2,9;c2,9;n2,044;
            see 0 2 = 1
            which ~ 1
            pass 1 = 0
            which ~ 0
            hand 0 2 = 1
            which ~ 1
            prove 1 0 9 = 9
            which ~ 1
            swap 0 1 = 1
            which ~ 0
            undo = 3
            prove 2 0 9 = 9
            which ~ 0
            undo = 3
            which ~ 1
            """);
        Script.play("24: as kept, what is seen stays", """
            told c2,9;c2,9;n1,00;
            keep = 1
            see 1 0 = 1
            pass 1 = 0
            which ~ 0
            back = 0
            count 5 = 1
            which ~ 1
            """);
    }

    private static void seenBeyond999() {
        Script.play("24, 25: the 999 days bind nothing that is seen", """
            told c2,9;c2,9;n0,99;n1,99;
            pass 24 = 0 x 41
            pass 15 = 0
            pass 1 ~ NO
            see 0 20 = 1
            which ~ 1
            kinds 1 0 ~ 7
            kinds 1 1 ~ 0
            """);
    }

    private static void kindsRefuse() {
        Script.play("25", """
            told c2,9;c2,9;n0,55;
            kinds -1|2|7|9|MIN|MAX 0 ~ BAD
            kinds 0|1 -1|1|6|MIN|MAX ~ BAD
            see 9 20 = 1
            kinds 2 1 ~ BAD
            kinds 0|1 0 ~ 0
            """);
        Script.play("25: seven and six", "told " + SEVEN_DRY + "n0,5555555;n0,5555555;n0,5555555;n0,5555555;n0,5555555;n6,5555555;\n"
                + """
            see 6 0 = 1
            kinds 6 5 ~ 15
            kinds 6 4 ~ 0
            kinds 6 6 ~ BAD
            kinds 7 5 ~ BAD
            """);
    }

    private static void kindsOfEach() {
        for (int kind = 0; kind <= 3; kind++) {
            String court = "told c" + kind + ",1;c2,9;n1,B9;\n";
            Script.play("25: one who believes it by 3", court.replace("B", "3") + """
                see 9 2 = 1
                kinds 0 0 ~ 13
                forget = 1
                see 0 2 = 1
                kinds 0 0 ~ 2
                """);
            Script.play("25: by 4", court.replace("B", "4") + """
                see 9 2 = 1
                kinds 0 0 ~ 12
                forget = 1
                see 0 2 = 1
                kinds 0 0 ~ 3
                see 0 20 = 2
                kinds 0 0 ~ 3
                """);
            Script.play("25: by 5", court.replace("B", "5") + """
                see 0 2 = 1
                kinds 0 0 ~ 8
                see 9 3 = 2
                kinds 0 0 ~ 8
                forget = 2
                see 1 2 = 1
                kinds 0 0 ~ 7
                """);
            Script.play("25: the plain one alone", "told c2,9;c" + kind + """
                ,2;c2,9;n2,939;
                see 0 3 = 1
                kinds 1 0 ~ 1
                courtier 1 0 = %d
                """.formatted(kind));
        }
        Script.play("25: of told news, what others' kinds are stays", """
            told c0,1;c2,9;n1,49;n1,00;n0,99;
            see 9 2 = 1
            kinds 0 0 ~ 12
            kinds 0 1 ~ 15
            kinds 0 2 ~ 0
            kinds 1 0 ~ 0
            kinds 1 1 ~ 15
            which ~ 2
            """);
    }

    private static void kindsOfKnownNews() {
        Script.play("25: known news is known by all kinds", """
            told c0,1;c2,9;n0,45;
            pass 1 = 1
            see 9 0 = 1
            see 9 20 = 2
            kinds 0|1 0 ~ 15
            see 0 0 = 3
            kinds 0|1 0 ~ 0
            """);
    }
}
