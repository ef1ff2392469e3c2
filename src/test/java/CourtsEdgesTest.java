/** Promises 1 to 8 at their edges: the bound, the first number beyond it, the empty, the full, what is refused. */
public final class CourtsEdgesTest {
    private static final int NONE = DoubtCourt.NONE;
    private static final String FIRST = "c0,9;c1,0;c2,1;c0,1;c3,2;c1,3;n5,036214;n3,550000;n4,909090;n5,444444;";
    private static final String SEVEN = "c0,1;c1,2;c2,3;c3,4;c0,5;c1,6;c2,9;";
    private static final String SEVEN_DRY = "c2,9;c2,9;c2,9;c2,9;c2,9;c2,9;c2,9;";
    private static final String SIX_NEWS = "n0,0000000;n1,1111111;n2,2222222;n3,3333333;n4,4444444;n6,5555555;";
    private static final String LONGEST = "c00,01;c01,02;c02,03;c03,04;c00,05;c01,06;c02,09;n00,0123456;n01,1234567;"
            + "n02,2345678;n03,3456789;n05,4567890;n06,5678901;";

    public static void main(String[] args) {
        aNewObject();
        write();
        everyLetter();
        writeFull();
        wipe();
        kindsToldBy0To99();
        heedsToldBy0To99();
        placesToldBy0To99();
        rowsOfEveryLength();
        signsNextToTheRightOnes();
        sevenAndSix();
        everyBeginning();
        theFirstOfSeveral();
        fullText();
        lay();
        layASmallerOne();
        layRefused();
        layForgets();
        heeds();
        beliefsOfLaterOnes();
        courtier();
        courtiersAndNews();
        news();
        belief();
        Due.end("CourtsEdgesTest");
    }

    private static String two(int number) {
        return number < 10 ? "0" + number : "" + number;
    }

    private static String many(int times, String letters) {
        return letters.repeat(times);
    }

    private static void aNewObject() {
        Script.play("1", """
            count 0 ~ 6
            count 1 ~ 4
            count 2|3 ~ 0
            count 4 ~ 77
            count 5|6|7|8 ~ 0
            fault ~ NONE
            lay ~ NO
            undo ~ NO
            back ~ NO
            forget ~ 0
            wipe ~ 0
            which ~ 15
            kinds 0|1|2|3|4|5 0|1|2|3 ~ 15
            """);
        Script.alike("1: as told", "count 0 = 6", "told " + FIRST);
        Script.play("1: each object for itself", "told c2,9;n0,5;\npass 1 = 0");
        Script.play("1: each object for itself", "count 0 = 6\ncount 2 = 0");
    }

    private static void write() {
        Script.play("2: beyond 32 and 126", """
            write 31|127|0|-1|-32|-126|MIN|MAX ~ BAD
            write 65635|-65437|4294|128|355 ~ BAD
            write 32 = 1
            write 31|127 ~ BAD
            write 126 = 2
            write 31|127|MIN|MAX ~ BAD
            count 8 ~ 2
            """);
        Script.play("2: behind the text, not ahead", """
            text c1,9;c2,0;
            write 110 = 11
            write 49 = 12
            text ,37;
            lay = 2
            courtier 0 0 = 1
            courtier 1 0 = 2
            news 0 0 = 1
            belief 0 0 = 3
            belief 1 0 = 7
            """);
        Script.play("2: the court stays while it is written", """
            text c2,9;n0,5;
            count 0 = 6
            count 1 = 4
            count 4 = 77
            """);
    }

    /** No letter is an item by itself, so each shows that it stands where it was written. */
    private static void everyLetter() {
        for (int letter = 32; letter <= 126; letter++) {
            Script.play("2", "write " + letter + " = 1\nfault ~ 0\ncount 8 = 1");
            Script.play("2", "text c0,9;\nwrite " + letter + " = 6\nfault ~ 5\ncount 8 = 6");
        }
    }

    private static void writeFull() {
        Script.play("2: 199, 200, full", "text " + many(199, "~") + "\n" + """
            count 8 ~ 199
            write 31|127 ~ BAD
            write 126 = 200
            write 32|99|126 ~ FULL
            write 31|127|MIN|MAX ~ BAD
            count 8 ~ 200
            wipe = 200
            write 32 = 1
            """);
    }

    private static void wipe() {
        Script.play("3: empty, one letter", """
            wipe ~ 0
            write 99 = 1
            wipe = 1
            count 8 = 0
            fault ~ NONE
            wipe ~ 0
            """);
        Script.play("3: full, then empty", "text " + many(200, "c") + "\n" + """
            write 99 ~ FULL
            wipe = 200
            wipe ~ 0
            write 99 = 1
            fault ~ 0
            """);
        Script.play("3: nothing else changes", """
            told c2,9;c0,0;n1,55;n0,05;
            prove 0 0 1 = 6
            keep = 1
            pass 2 = 1
            see 9 3 = 1
            wipe = 22
            count 2 = 2
            count 5 = 1
            count 6 = 2
            count 7 = 1
            count 8 = 0
            lay ~ NO
            belief 0 0 = 6
            belief 1 0 = 7
            """);
    }

    private static void fault(String text, int want) {
        Due.faultOf(text, want);
    }

    private static void kindsToldBy0To99() {
        for (int kind = 0; kind <= 99; kind++) {
            fault("c" + two(kind) + ",9;", kind <= 3 ? NONE : 0);
            fault("c2,9;c" + two(kind) + ",0;", kind <= 3 ? NONE : 5);
            if (kind < 10) {
                fault("c" + kind + ",9;", kind <= 3 ? NONE : 0);
                fault("c00" + kind + ",9;", 0);
            }
        }
        for (int kind = 0; kind <= 3; kind++) {
            Script.play("4, 5: kind " + kind, "told c" + two(kind) + ",9;c" + kind + ",9;n0,00;\n"
                    + "courtier 0|1 0 = " + kind);
        }
    }

    private static void heedsToldBy0To99() {
        for (int heeds = 0; heeds <= 99; heeds++) {
            boolean isSo = heeds <= 6 || heeds == 9;
            fault("c0," + two(heeds) + ";", isSo ? NONE : 0);
            fault(SEVEN.substring(0, 30) + "c0," + two(heeds) + ";", isSo ? NONE : 30);
            if (heeds < 10) {
                fault("c0," + heeds + ";", isSo ? NONE : 0);
                fault("c0,00" + heeds + ";", 0);
            }
        }
    }

    private static void placesToldBy0To99() {
        for (int courtiers = 1; courtiers <= 7; courtiers++) {
            String ahead = many(courtiers, "c2,9;");
            String row = many(courtiers, "5");
            for (int place = 0; place <= 99; place++) {
                boolean isSo = place < courtiers;
                fault(ahead + "n" + two(place) + "," + row + ";", isSo ? NONE : 5 * courtiers);
                if (place < 10) {
                    fault(ahead + "n" + place + "," + row + ";", isSo ? NONE : 5 * courtiers);
                    fault(ahead + "n00" + place + "," + row + ";", 5 * courtiers);
                }
            }
            if (courtiers < 7) {
                fault(ahead + "n" + courtiers + "," + row + ";c2,9;", 5 * courtiers);
            }
        }
        fault("n0,;c2,9;", 0);
        fault("n0,0;", 0);
    }

    private static void rowsOfEveryLength() {
        for (int courtiers = 1; courtiers <= 7; courtiers++) {
            for (int figures = 0; figures <= 10; figures++) {
                String text = many(courtiers, "c2,9;") + "n0," + many(figures, "9") + ";";
                fault(text, figures == courtiers ? NONE : 5 * courtiers);
            }
        }
        fault("c2,9;n0,5;c2,9;n1,55;", NONE);
        fault("c2,9;n0,55;c2,9;n1,55;", 5);
        fault("c2,9;n0,5;c2,9;n1,5;", 15);
        fault("c2,9;n0,5;c2,9;n1,555;", 15);
    }

    private static void signsNextToTheRightOnes() {
        String right = "c1,2;c02,09;n1,07;";
        int[] starts = {0, 0, 0, 0, 0, 5, 5, 5, 5, 5, 5, 5, 12, 12, 12, 12, 12, 12};
        fault(right, NONE);
        for (int i = 0; i < right.length(); i++) {
            for (char wrong : new char[] {'/', ':', ' ', '~', '.', '-', '+', '<', 'b', 'd', 'm', 'o', 'C', 'N'}) {
                fault(right.substring(0, i) + wrong + right.substring(i + 1), starts[i]);
            }
            // a sign more is no item either, but for a figure behind a number of one figure
            fault(right.substring(0, i) + " " + right.substring(i), starts[i]);
        }
        fault(right + " ", 18);
    }

    private static void sevenAndSix() {
        fault(SEVEN, NONE);
        fault(SEVEN + "c0,9;", 35);
        fault(SEVEN + SIX_NEWS, NONE);
        fault(SEVEN + SIX_NEWS + "n0,0000000;", 101);
        fault(SEVEN + SIX_NEWS + "c0,9;", 101);
        fault("c0,9;" + many(6, "n0,0;"), NONE);
        fault("c0,9;" + many(7, "n0,0;"), 35);
        fault("c0,9;" + many(6, "n0,0;") + many(6, "c0,9;"), NONE);
        fault("c0,9;" + many(6, "n0,0;") + many(7, "c0,9;"), 65);
        Script.play("4, 5: seven and six", "told " + SEVEN + SIX_NEWS + "\ncount 0 = 7\ncount 1 = 6");
    }

    /** Each text cut off at each letter: an item is so only with its last sign. */
    private static void everyBeginning() {
        for (String text : new String[] {FIRST, SEVEN + SIX_NEWS, LONGEST}) {
            DoubtCourt x = new DoubtCourt();
            int start = 0;
            boolean isNewsToldSo = false;
            for (int i = 0; i < text.length(); i++) {
                Due.same("4: write", x.write(text.charAt(i)), i + 1);
                boolean isEnd = text.charAt(i) == ';';
                Due.same("4: fault of the first " + (i + 1) + " of " + text, x.fault(), isEnd ? NONE : start);
                isNewsToldSo |= isEnd && text.charAt(start) == 'n';
                Due.isTrue("5: laid if it is so", x.lay() > 0 == (isEnd && isNewsToldSo));
                start = isEnd ? i + 1 : start;
            }
        }
    }

    private static void theFirstOfSeveral() {
        fault("x;c0,9;y", 0);
        fault("c0,9;c4,9;n9,9;", 5);
        fault("c0,9;n0,0;n1,0;c7,7;x", 10);
        fault("c0,9;n0,0c0,9;n0,00;", 5);
        fault(";c0,9;", 0);
        fault("c0,9;;n0,0;", 5);
        Script.play("4: nothing changes", """
            pass 1 = 0
            keep = 1
            see 3 1 = 1
            text c0,9;c
            fault ~ 5
            fault ~ 5
            write 48 = 7
            text ,9;
            fault ~ NONE
            """);
    }

    private static void fullText() {
        fault(LONGEST, NONE);
        fault(LONGEST + "c", 121);
        fault(LONGEST + many(79, "c"), 121);
        fault(many(200, ";"), 0);
        fault(SEVEN + many(15, "c0,9;") + many(15, "n0,0;") + many(15, "~"), 35);
        fault(SEVEN + "n0," + many(162, "9"), 35);
        fault(SEVEN + "n0," + many(161, "9") + ";", 35);
        fault("c" + many(199, "0"), 0);
    }

    private static void lay() {
        Script.play("5: a courtier and news at least", """
            lay ~ NO
            text c0,9;
            lay ~ NO
            text n0,5;
            lay = 1
            count 0|1 = 1
            count 4 = 5
            count 8 = 10
            fault = NONE
            lay = 1
            """);
        Script.play("5: seven courtiers, no news", "text " + SEVEN + "\nlay ~ NO");
        Script.play("5: the same text again", """
            told c2,9;c2,9;n1,00;
            pass 1 = 0
            swap 0 1 = 1
            prove 0 0 3 = 3
            lay = 2
            news 0 0 = 1
            courtier 0 2 = 0
            belief 0 0 = 0
            count 2 = 0
            count 8 = 16
            """);
        Script.alike("5: laid again", "told " + FIRST + "\npass 3 = 0\nlay = 6", "told " + FIRST);
        Script.alike("5: a smaller court leaves nothing of a greater", "told " + SEVEN + SIX_NEWS + "\ntold c2,9;n0,5;c2,9;",
                "told c2,9;n0,5;c2,9;");
        Script.alike("5: a greater one behind a smaller", "told c2,9;n0,5;\ntold " + SEVEN + SIX_NEWS,
                "told " + SEVEN + SIX_NEWS);
    }

    private static void layASmallerOne() {
        Script.play("5: of a greater court, all known and asked for, nothing is left", "told " + SEVEN_DRY
                + "n0,0999999;n0,0999999;n0,0999999;n0,0999999;n0,0999999;n6,9999990;\n" + """
            offices -1 = 2
            swap 0 6 = 6
            swap 1 5 = 5
            pass 24 = 1
            comes 0 = NONE
            told c2,9;c2,9;n1,50;
            count 0 = 2
            count 1 = 1
            count 3 = 0
            count 4 = 5
            courtier 0 2|3 = 0
            courtier 1 2|3 = 1
            courtier 0|1 1 = NONE
            offices -1 = 1
            offices 0 = 1
            offices 1 = BAD
            first = NONE
            mute = 0
            which = 1
            sooner 0 0|1 = 1
            pass 24 = 0
            news 0 0 = 1
            belief 0 0 = 5
            """);
    }

    private static void layRefused() {
        String lived = """
            told c2,9;c0,0;c3,9;n2,990;n0,099;
            keep = 1
            pass 2 = 1
            swap 0 2 = 2
            keep = 2
            see 2 0 = 1
            see 9 7 = 2
            wipe = 29
            """;
        Script.play("5: no text", lived + "lay ~ NO");
        Script.play("5: no courtier", lived + "text n0,;\nlay ~ NO");
        Script.play("5: no news", lived + "text c1,9;c2,0;\nlay ~ NO");
        Script.play("5: a fault at once", lived + "text x\nlay ~ NO");
        Script.play("5: a fault at last", lived + "text c1,9;n0,5;n\nlay ~ NO");
    }

    private static void layForgets() {
        Script.play("5: nothing seen, undone, kept", """
            told c2,9;n0,5;n0,0;
            see 9 1 = 1
            see 9 2 = 2
            keep = 1
            keep = 2
            pass 24 = 1
            prove 0 0 1 = 6
            lay = 1
            count 2|3|5|6|7 = 0
            undo ~ NO
            back ~ NO
            forget ~ 0
            which ~ 3
            keep = 1
            keep = 2
            keep ~ FULL
            see 9 0 = 1
            """);
    }

    private static void heeds() {
        for (int courtiers = 1; courtiers <= 7; courtiers++) {
            for (int heeds : new int[] {0, 1, 2, 3, 4, 5, 6, 9}) {
                DoubtCourt x = Due.laid(many(courtiers, "c0," + heeds + ";") + "n0," + many(courtiers, "5") + ";");
                for (int c = 0; c < courtiers; c++) {
                    int want = heeds < courtiers && heeds != c ? heeds : NONE;
                    Due.same("6: whom " + c + " of " + courtiers + " heeds, told " + heeds, x.courtier(c, 1), want);
                }
            }
        }
        Script.play("5: whom one heeds may be told behind it, and behind news", """
            told c0,2;n0,5;c0,2;n0,55;c1,0;
            courtier 0 1 = 2
            courtier 1 1 = 2
            courtier 2 1 = 0
            """);
    }

    private static void beliefsOfLaterOnes() {
        for (String other : new String[] {"c2,9;c2,9;n0,99;n1,99;", "c2,9;c2,9;c2,9;n0,999;n2,999;x"}) {
            Script.play("5: told behind the news: 0, whatever was read ahead", "text " + other + """

                fault = %s
                lay = %s
                wipe = %d
                told c2,9;n0,5;c2,9;n1,55;c2,9;
                belief 0 0|1 = 5
                belief 1 0 = 0
                belief 2 0|1 = 0
                count 4 = 15
                """.formatted(other.endsWith("x") ? "29" : "NONE", other.endsWith("x") ? "NO" : "2", other.length()));
        }
        Script.play("5: told behind the news: 0", """
            told c2,9;n0,9;c2,9;n1,98;c2,9;n2,987;
            belief 0 0 = 9
            belief 1|2 0 = 0
            belief 0 1 = 9
            belief 1 1 = 8
            belief 2 1 = 0
            belief 0 2 = 9
            belief 1 2 = 8
            belief 2 2 = 7
            news 0 1 = 6
            news 1 1 = 4
            news 2 1 = 0
            """);
    }

    private static void courtier() {
        Script.play("6: the first court", """
            courtier 0 0|2|3 ~ 0
            courtier 0 1 ~ NONE
            courtier 0 4 ~ 9
            courtier 5 0 ~ 1
            courtier 5 1 ~ 3
            courtier 5 2 ~ 5
            courtier 5 3 ~ 9
            courtier 5 4 ~ 15
            courtier -1|6|7|9|MIN|MAX 0|4 ~ BAD
            courtier 0|5 -1|5|9|MIN|MAX ~ BAD
            courtier -1|6 -1|5 ~ BAD
            """);
        Script.play("6: one alone", """
            told c3,9;n0,4;
            courtier 0 0 ~ 3
            courtier 0 1 ~ NONE
            courtier 0 2 ~ 0
            courtier 0 3|4 ~ 1
            courtier 1|-1 0 ~ BAD
            pass 1 = 1
            courtier 0 3 ~ 0
            courtier 0 4 ~ 1
            prove 0 0 1 = 5
            courtier 0 4 ~ 0
            """);
        Script.play("6: all of seven and six", """
            told c0,1;c1,2;c2,3;c3,4;c0,5;c1,6;c2,9;n6,5555554;n6,5555555;n6,5555554;n6,9999993;n6,0000009;n6,5555550;
            courtier 6 3 ~ 63
            courtier 6 4 ~ 45
            courtier 5 3 ~ 0
            courtier 5 4 ~ 16
            courtier 6 2 ~ 6
            courtier 7 0|1|2|3|4 ~ BAD
            swap 0 6 = 6
            courtier 6 2 = 0
            courtier 0 2 = 6
            courtier 6 3 = 63
            """);
    }

    /** COURTIERS, NEWS: such as there are, for each number of them. */
    private static void courtiersAndNews() {
        for (int courtiers = 1; courtiers <= 7; courtiers++) {
            for (int news = 1; news <= 6; news++) {
                DoubtCourt x = Due.laid(many(courtiers, "c2,9;") + many(news, "n0," + many(courtiers, "5") + ";"));
                for (int c = -1; c <= 8; c++) {
                    Due.isTrue("6: courtier", x.courtier(c, 2) == (c >= 0 && c < courtiers ? c : DoubtCourt.BAD));
                }
                for (int n = -1; n <= 7; n++) {
                    boolean isTold = n >= 0 && n < news;
                    Due.same("7: news", x.news(n, 0), isTold ? 0 : DoubtCourt.BAD);
                    Due.same("8: belief", x.belief(0, n), isTold ? 5 : DoubtCourt.BAD);
                    Due.same("8: belief", x.belief(courtiers - 1, n), isTold ? 5 : DoubtCourt.BAD);
                    Due.same("8: belief", x.belief(courtiers, n), DoubtCourt.BAD);
                }
            }
        }
    }

    private static void news() {
        Script.play("7", """
            told c2,9;c2,9;c2,9;c2,9;c2,9;c2,9;c2,9;n0,4444444;n6,5555555;n3,4545454;n3,5555559;n5,0000000;n1,5555550;
            news 0 0 ~ 0
            news 0 1 ~ 127
            news 1 0 ~ 6
            news 1 1 ~ 0
            news 2 0 ~ 3
            news 2 1 ~ 85
            news 5 0 ~ 1
            news 5 1 ~ 64
            news -1|6|7|MIN|MAX 0|1 ~ BAD
            news 0|5 -1|2|9|MIN|MAX ~ BAD
            news -1|6 2 ~ BAD
            pass 1 = 1
            news 0 0 ~ 9
            news 0 1 ~ 127
            news 5 0 ~ 6
            """);
    }

    private static void belief() {
        Script.play("8", """
            told c2,9;c2,9;n0,09;n1,90;n1,45;
            belief 0 0 ~ 0
            belief 1 0 ~ 9
            belief 0 1 ~ 9
            belief 1 1 ~ 0
            belief 0 2 ~ 4
            belief 1 2 ~ 5
            belief -1|2|7|9|MIN|MAX 0|2 ~ BAD
            belief 0|1 -1|3|6|MIN|MAX ~ BAD
            belief 2 3 ~ BAD
            belief 0 613566757 ~ BAD
            """);
    }
}
