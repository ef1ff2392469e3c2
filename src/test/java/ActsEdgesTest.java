/** Promises 9 to 13 at their edges: the bound, the first number beyond it, the empty, the full, what is refused. */
public final class ActsEdgesTest {
    private static final String SEVEN_DRY = "c2,9;c2,9;c2,9;c2,9;c2,9;c2,9;c2,9;";

    public static void main(String[] args) {
        goesUpFromEachPlace();
        goesToTheNearestOfEverySet();
        goesByPlacesThatWereChanged();
        newsByNews();
        plainAndHopeful();
        dryAndAunt();
        allSevenOfAllSix();
        whomOneHeeds();
        allAtOnce();
        auntAndTheNewsThatGoes();
        knownNewsRests();
        pass();
        passBeyond999();
        daysAtOneTime();
        prove();
        hand();
        swap();
        undoOfEach();
        undoAtMostEight();
        undoAndTheOthers();
        Due.end("ActsEdgesTest");
    }

    private static String believedBy(int[] beliefs) {
        StringBuilder row = new StringBuilder();
        for (int belief : beliefs) {
            row.append(belief);
        }
        return row.toString();
    }

    /** One who believes it by 4 carries it up, one who believes it by 5 keeps it where nobody doubts it. */
    private static void goesUpFromEachPlace() {
        for (int place = 0; place <= 6; place++) {
            int[] beliefs = {9, 9, 9, 9, 9, 9, 9};
            for (int belief = 0; belief <= 9; belief++) {
                beliefs[place] = belief;
                int then = belief > 4 ? place : place == 0 ? 9 : place - 1;
                Script.play("9: goes up", "told " + SEVEN_DRY + "n" + place + "," + believedBy(beliefs) + ";\n"
                        + "pass 1 = " + (then == 9 ? 1 : 0) + "\nnews 0 0 = " + then);
            }
        }
    }

    private static void goesToTheNearestOfEverySet() {
        for (int place = 0; place <= 6; place++) {
            for (int set = 0; set < 128; set++) {
                if ((set >> place & 1) != 0) {
                    continue;
                }
                int[] beliefs = new int[7];
                for (int c = 0; c < 7; c++) {
                    beliefs[c] = (set >> c & 1) != 0 ? 4 : 5;
                }
                DoubtCourt x = Due.laid(SEVEN_DRY + "n" + place + "," + believedBy(beliefs) + ";");
                Due.same("9: pass", x.pass(1), 0);
                Due.same("9: nearest of " + set + " to " + place, x.news(0, 0), nearest(set, place));
                x.undo();
                x.swap(0, 6);
                x.swap(1, 5);
                x.swap(2, 4);
                Due.same("9: pass", x.pass(1), 0);
                Due.same("9: the other way round, nearest of " + set + " to " + place, x.news(0, 0),
                        6 - nearest(turned(set), 6 - place));
            }
        }
    }

    private static int turned(int set) {
        int bits = 0;
        for (int c = 0; c < 7; c++) {
            bits |= (set >> c & 1) << 6 - c;
        }
        return bits;
    }

    private static int nearest(int set, int place) {
        for (int way = 1; way <= 6; way++) {
            if (place >= way && (set >> (place - way) & 1) != 0) {
                return place - way;
            }
            if ((set >> (place + way) & 1) != 0) {
                return place + way;
            }
        }
        return place;
    }

    private static void goesByPlacesThatWereChanged() {
        Script.play("9: up by places", """
            told c2,9;c2,9;c2,9;n2,004;n0,000;
            swap 0 2 = 2
            pass 1 = 1
            news 0 0 = 9
            news 1 0 = 1
            pass 1 = 1
            news 1 0 = 2
            pass 1 = 2
            """);
        Script.play("9: of two that at the lower place, be it the higher courtier", """
            told c2,9;c2,9;c2,9;c2,9;n1,4949;
            swap 0 3 = 3
            pass 1 = 0
            news 0 0 = 2
            """);
        Script.play("9: of two that at the lower place", """
            told c2,9;c2,9;c2,9;n1,494;
            swap 0 2 = 2
            pass 1 = 0
            news 0 0 = 2
            """);
    }

    private static void newsByNews() {
        Script.play("9: each news for itself", """
            told c2,9;c2,9;n0,40;n1,04;n1,55;n0,99;n1,94;n0,54;
            pass 1 = 1
            news 0 0 = 9
            news 1 0 = 0
            news 2 0 = 1
            news 3 0 = 0
            news 4 0 = 0
            news 5 0 = 1
            pass 24 = 2
            pass 1 = 2
            """);
        Script.play("9: all six are known", """
            told c2,9;n0,0;n0,1;n0,2;n0,3;n0,4;n0,0;
            pass 1 = 6
            news 0|1|2|3|4|5 0 = 9
            pass 24 = 6
            """);
    }

    private static void believes(String kind, int belief, int heeded, int then) {
        Script.play("9: kind " + kind + " by " + belief + ", whom it heeds by " + heeded, "told c2,9;c2,9;c" + kind + ",1;n0,9"
                + heeded + belief + ";\npass 1 = 0\nbelief 2 0 = " + then + "\nbelief 1 0 = " + heeded + "\nbelief 0 0 = 9");
    }

    private static void plainAndHopeful() {
        for (int belief = 0; belief <= 9; belief++) {
            for (int heeded = 0; heeded <= 9; heeded++) {
                believes("0", belief, heeded, heeded > 4 ? Math.min(9, belief + 1) : belief);
                believes("1", belief, heeded, heeded > 4 ? Math.min(9, belief + 2) : belief);
            }
        }
    }

    private static void dryAndAunt() {
        for (int belief = 0; belief <= 9; belief++) {
            for (int heeded = 0; heeded <= 9; heeded++) {
                believes("2", belief, heeded, belief);
                // an aunt who does not have it: of three the doubters beside her may be handed it, she may not
                if (belief > 4 && heeded > 4) {
                    believes("3", belief, heeded, belief - 1);
                }
            }
        }
        Script.play("9: an aunt from 1 to 0 and no further", """
            told c2,9;c2,9;c3,1;n0,441;
            belief 2 0 = 1
            hand 0 1 = 0
            pass 1 = 0
            belief 2 0 = 0
            hand 0 1 = 0
            pass 1 = 0
            belief 2 0 = 0
            """);
        Script.play("9: an aunt who heeds nobody doubts more all the same", """
            told c2,9;c3,9;n0,99;
            pass 1 = 0
            belief 1 0 = 8
            pass 3 = 0
            belief 1 0 = 5
            news 0 0 = 0
            pass 1 = 0
            belief 1 0 = 4
            news 0 0 = 0
            """);
    }

    /** The last one's neighbour is the first one of the next news. */
    private static void allSevenOfAllSix() {
        Script.play("9: dry ones, to the last", "told " + SEVEN_DRY + "n6,5555555;n6,4567895;n0,9876543;n3,5555555;n6,0999995;n0,5999999;\n"
                + """
            count 4 = 265
            pass 24 = 2
            count 4 = 265
            belief 6 0|1|3|4 = 5
            belief 0 0|3|5 = 5
            belief 0 1 = 4
            belief 0 4 = 0
            """);
    }

    private static void whomOneHeeds() {
        for (String kind : new String[] {"0", "1"}) {
            for (String nobody : new String[] {"9", "0", "2", "3", "6"}) {
                Script.play("9: who heeds nobody: nothing", "told c" + kind + "," + nobody + ";c2,9;n1,59;\npass 5 = 0\n"
                        + "belief 0 0 = 5\nbelief 1 0 = 9");
            }
        }
        Script.play("9: the belief of the same news counts", """
            told c0,1;c2,9;n1,59;n1,54;
            pass 1 = 0
            belief 0 0 = 6
            belief 0 1 = 5
            """);
        Script.play("9: place is no matter for whom one heeds", """
            told c0,1;c2,9;c2,9;n2,159;
            swap 0 2 = 2
            swap 1 0 = 2
            pass 1 = 0
            belief 0 0 = 2
            """);
    }

    private static void allAtOnce() {
        Script.play("9: by how they were, up the row", """
            told c2,9;c0,0;c0,1;c0,2;n0,9444;
            pass 1 = 0
            belief 1 0 = 5
            belief 2 0 = 4
            belief 3 0 = 4
            """);
        Script.play("9: by how they were, down the row", """
            told c0,1;c0,2;c0,3;c2,9;n3,4449;
            pass 1 = 0
            belief 2 0 = 5
            belief 1 0 = 4
            belief 0 0 = 4
            """);
        Script.play("9: an aunt who comes to doubt is believed on that day still", """
            told c3,9;c0,0;c2,9;n2,559;
            pass 1 = 0
            belief 0 0 = 4
            belief 1 0 = 6
            news 0 0 = 2
            pass 1 = 0
            belief 1 0 = 6
            news 0 0 = 0
            """);
        Script.play("9: two who heed one another", """
            told c0,1;c1,0;c2,9;n2,549;
            pass 1 = 0
            belief 0 0 = 5
            belief 1 0 = 6
            news 0 0 = 1
            pass 1 = 0
            belief 0 0 = 6
            belief 1 0 = 8
            """);
    }

    private static void auntAndTheNewsThatGoes() {
        Script.play("9: she gets it on that day: nothing", """
            told c2,9;c3,9;c2,9;n2,930;
            pass 1 = 0
            news 0 0 = 1
            belief 1 0 = 3
            """);
        Script.play("9: it leaves her on that day: 1 less", """
            told c2,9;c3,9;c2,9;n1,930;
            pass 1 = 0
            news 0 0 = 0
            belief 1 0 = 2
            """);
        Script.play("9: it is handed on by her: 1 less", """
            told c2,9;c3,9;c2,9;n1,990;
            pass 1 = 0
            news 0 0 = 2
            belief 1 0 = 8
            """);
        Script.play("9: it stays with her: nothing", """
            told c2,9;c3,9;c3,9;n1,999;
            pass 1 = 0
            belief 1 0 = 9
            belief 2 0 = 8
            """);
        Script.play("9: she carries it to the king: nothing changes of what is known", """
            told c3,9;c0,2;c2,9;n0,239;
            pass 1 = 1
            belief 0 0 = 2
            belief 1 0 = 3
            """);
    }

    private static void knownNewsRests() {
        Script.play("9: of known news nothing changes, of other news it does", """
            told c0,1;c2,9;c3,9;n0,499;n1,599;
            pass 1 = 1
            belief 0 0 = 4
            belief 2 0 = 9
            belief 0 1 = 6
            belief 2 1 = 8
            pass 3 = 1
            belief 0 0 = 4
            belief 2 0 = 9
            belief 0 1 = 9
            belief 2 1 = 5
            news 0 0 = 9
            """);
    }

    private static void pass() {
        Script.play("9", """
            told c2,9;c2,9;n1,00;n0,05;
            pass 0|25|-1|-24|MIN|MAX ~ BAD
            pass 1 = 1
            pass 0|25|-1|MIN|MAX ~ BAD
            count 2 = 1
            pass 24 = 2
            count 2 = 25
            count 6 = 2
            """);
        Script.play("9: the first court, its days from 0", """
            pass 0|25 ~ BAD
            pass 1 = 0
            pass 24 = 2
            count 2 = 25
            """);
    }

    private static void passBeyond999() {
        String stays = "told c2,9;n0,9;\npass 24 = 0 x 40\n";
        Script.play("9: up to 999 at one time", stays + """
            pass 15 = 0
            count 2 = 975
            pass 24 = 0
            count 2 = 999
            pass 1|2|23|24 ~ NO
            pass 0|25|-1|MIN|MAX ~ BAD
            undo = 7
            count 2 = 975
            pass 24 = 0
            """);
        Script.play("9: one beyond", stays + """
            pass 16 = 0
            count 2 = 976
            pass 24 ~ NO
            pass 23 = 0
            count 2 = 999
            pass 1 ~ NO
            prove 0 0 -9 = 0
            comes 0 = 1
            behind 1 0 -1 = 9
            pass 1 ~ NO
            lay = 1
            count 2 = 0
            pass 24 = 0
            """);
        Script.play("9: one is left", stays + """
            pass 24 = 0
            pass 14 = 0
            count 2 = 998
            pass 2|24 ~ NO
            pass 1 = 0
            count 2 = 999
            pass 1 ~ NO
            """);
        Script.play("9: as kept, so many are left", stays + """
            keep = 1
            pass 24 = 0
            pass 15 = 0
            pass 1 ~ NO
            back = 0
            count 2 = 960
            pass 24 = 0
            pass 15 = 0
            pass 1 ~ NO
            """);
    }

    private static void daysAtOneTime() {
        // the aunt doubts the first from day 5 on, and the second, which is with her every other day, from day 10 on
        String court = "told c3,9;c2,9;c2,9;n2,995;n1,900;\n";
        Script.alike("9: 24 at one time are 24 by 1", court + "pass 24 = 2",
                court + "pass 1 = 0 x 6\npass 1 = 1 x 5\npass 1 = 2 x 13");
        Script.play("9: at one time they are one to undo, by 1 they are 24", court + """
            pass 24 = 2
            count 6 = 1
            undo = 0
            count 2 = 0
            """);
    }

    private static void prove() {
        for (int belief = 0; belief <= 9; belief++) {
            for (int v = -9; v <= 9; v++) {
                int then = Math.max(0, Math.min(9, belief + v));
                Script.play("10: from " + belief, "told c2,9;n0," + belief + ";\nprove 0 0 " + v
                        + (then == belief ? " ~ NO" : " = " + then) + "\nbelief 0 0 = " + then
                        + "\ncount 6 = " + (then == belief ? 0 : 1));
            }
        }
        Script.play("10: bad", """
            told c0,1;c2,9;n0,59;n1,09;
            prove 0 0 -10|10|-11|19|MIN|MAX ~ BAD
            prove -1|2|7|9|MIN|MAX 0 1 ~ BAD
            prove 0 -1|2|6|MIN|MAX 1 ~ BAD
            prove 1 1 10 ~ BAD
            prove 0 1 -10 ~ BAD
            prove 2 0 0 ~ BAD
            prove 0 2 0 ~ BAD
            prove 1 0 1|9|0 ~ NO
            prove 0 1 -1|-9|0 ~ NO
            prove 0 613566757 1 ~ BAD
            """);
        Script.play("10: one courtier's belief of one news", """
            told c2,9;c2,9;n0,12;n1,34;
            prove 1 0 5 = 7
            belief 0 0 = 1
            belief 1 0 = 7
            belief 0 1 = 3
            belief 1 1 = 4
            news 0 0 = 0
            """);
        Script.play("10: known news, too", """
            told c2,9;c2,9;n0,45;
            pass 1 = 1
            prove 0 0 -4 = 0
            prove 0 0 -1 ~ NO
            prove 1 0 4 = 9
            prove 1 0 1 ~ NO
            news 0 0 = 9
            count 3 = 1
            """);
        Script.play("10: seven and six", "told " + SEVEN_DRY + "n0,9999999;n0,9999999;n0,9999999;n0,9999999;n0,9999999;"
                + "n0,9999990;\n" + """
            prove 6 5 -9|0 ~ NO
            prove 6 5 9 = 9
            prove 6 6 -1 ~ BAD
            prove 7 5 -1 ~ BAD
            count 4 = 378
            prove 0 0 -9 = 0
            count 4 = 369
            """);
    }

    private static void hand() {
        Script.play("11", """
            told c2,9;c2,9;c2,9;n2,949;n0,555;n1,944;
            hand 0 2 ~ NO
            hand 1 0 ~ NO
            hand -1|3|6|MIN|MAX 0 ~ BAD
            hand 0 -1|3|7|9|MIN|MAX ~ BAD
            hand 3 3 ~ BAD
            hand 0 0 = 2
            hand 0 0 ~ NO
            hand 0 2 = 0
            count 6 = 2
            news 0 1 = 2
            """);
        Script.play("11: known", """
            told c2,9;c2,9;n0,40;n1,55;
            pass 1 = 1
            hand 0 0|1 ~ NO
            hand 0 -1|2|9 ~ BAD
            hand 1 0 = 1
            undo = 1
            undo = 0
            hand 0 1 = 0
            hand 0 0 = 1
            """);
        Script.play("11: one courtier: it is there", """
            told c2,9;n0,5;
            hand 0 0 ~ NO
            hand 0 1 ~ BAD
            hand 1 0 ~ BAD
            """);
        Script.play("11: seven and six", "told " + SEVEN_DRY + "n0,9999999;n0,9999999;n0,9999999;n0,9999999;n0,9999999;"
                + "n6,9999990;\n" + """
            hand 5 6 ~ NO
            hand 5 7 ~ BAD
            hand 6 0 ~ BAD
            hand 5 0 = 6
            hand 0 6 = 0
            courtier 6 3 = 1
            courtier 0 3 = 62
            """);
    }

    private static void swap() {
        Script.play("12", """
            told c2,9;c2,9;c2,9;n0,449;
            swap 0 0 ~ BAD
            swap 2 2 ~ BAD
            swap -1|3|7|9|MIN|MAX 0 ~ BAD
            swap 0 -1|3|7|9|MIN|MAX ~ BAD
            swap 3 3 ~ BAD
            swap -1 -1 ~ BAD
            swap 0 1 = 1
            swap 0 1 = 0
            swap 2 1 = 1
            swap 2 0 = 0
            count 6 = 4
            courtier 0 2 = 1
            courtier 1 2 = 2
            courtier 2 2 = 0
            """);
        Script.play("12: one alone", """
            told c2,9;n0,5;
            swap 0|1|-1 0|1 ~ BAD
            """);
        Script.play("12: seven", "told " + SEVEN_DRY + "n0,9999999;\n" + """
            swap 6 0 = 0
            swap 6 7 ~ BAD
            swap 7 6 ~ BAD
            swap 6 6 ~ BAD
            swap 0 5 = 5
            courtier 5 2 = 6
            courtier 6 2 = 0
            """);
        Script.play("12: kinds, heeds, news, beliefs go with them", """
            told c0,1;c3,0;n0,47;n1,74;
            swap 1 0 = 0
            courtier 0 0 = 0
            courtier 0 1 = 1
            courtier 1 0 = 3
            courtier 1 1 = 0
            news 0 0 = 0
            news 1 0 = 1
            belief 0 0 = 4
            belief 1 0 = 7
            """);
    }

    private static void undoOfEach() {
        String court = "told c0,1;c2,9;c3,9;n2,490;n0,088;\n";
        String[] acts = {"pass 1 = 1", "pass 24 = 1", "prove 0 0 9 = 9", "prove 2 1 -1 = 7", "hand 0 1 = 2", "swap 2 0 = 0"};
        for (String act : acts) {
            Script.play("13: nothing can be undone", court + "undo ~ NO");
            Script.alike("13: undone is " + act, court + act + "\nundo = 0", court);
            Script.play("13: one", court + act + "\ncount 6 = 1\nundo = 0\ncount 6 = 0\nundo ~ NO");
        }
        for (String refused : new String[] {"pass 25 ~ BAD", "prove 1 0 0 ~ NO", "hand 0 2 ~ NO", "swap 1 1 ~ BAD"}) {
            Script.play("13: what is refused can't be undone", court + refused + "\ncount 6 = 0\nundo ~ NO");
        }
    }

    private static void undoAtMostEight() {
        String eight = """
            told c2,9;c2,9;c2,9;n2,500;
            prove 0 0 1 = 6
            swap 0 1 = 1
            pass 1 = 0
            hand 0 2 = 0
            prove 0 0 1 = 7
            swap 2 0 = 1
            pass 2 = 1
            prove 2 0 1 = 1
            count 6 = 8
            """;
        Script.play("13: eight", eight + """
            undo = 7
            undo = 6
            undo = 5
            undo = 4
            undo = 3
            undo = 2
            undo = 1
            undo = 0
            belief 0 0 = 5
            undo ~ NO
            """);
        Script.play("13: a ninth is the last of eight", eight + """
            prove 2 0 1 = 2
            count 6 = 8
            undo = 7
            belief 2 0 = 1
            undo = 6
            undo = 5
            undo = 4
            undo = 3
            undo = 2
            undo = 1
            courtier 0 2 = 1
            undo = 0
            courtier 0 2 = 0
            belief 0 0 = 6
            undo ~ NO
            belief 0 0 = 6
            """);
        Script.play("13: sixteen more", eight + """
            swap 0 1 = 0
            swap 0 1 = 2
            swap 0 1 = 0
            swap 0 1 = 2
            swap 0 1 = 0
            swap 0 1 = 2
            swap 0 1 = 0
            swap 0 1 = 2
            count 6 = 8
            swap 0 1 = 0
            count 6 = 8
            undo = 7
            undo = 6
            undo = 5
            undo = 4
            undo = 3
            undo = 2
            undo = 1
            undo = 0
            courtier 0 2 = 0
            undo ~ NO
            """);
        Script.play("13: undone, then others", eight + """
            undo = 7
            undo = 6
            prove 1 0 9 = 9
            count 6 = 7
            prove 1 0 -9 = 0
            prove 1 0 9 = 9
            count 6 = 8
            undo = 7
            belief 1 0 = 0
            """);
    }

    private static void undoAndTheOthers() {
        Script.play("13: what is seen, kept, written stays", """
            told c2,9;c2,9;n1,50;
            keep = 1
            pass 3 = 0
            see 9 1 = 1
            keep = 2
            write 99 = 17
            undo = 0
            count 2 = 0
            count 5 = 1
            count 7 = 2
            count 8 = 17
            back = 1
            count 2 = 3
            count 6 = 0
            undo ~ NO
            """);
        Script.play("13: the days that are undone can go by again", """
            told c2,9;c2,9;n1,00;
            pass 2 = 1
            undo = 0
            news 0 0 = 1
            hand 0 0 = 1
            pass 1 = 1
            undo = 1
            news 0 0 = 0
            undo = 0
            news 0 0 = 1
            """);
    }
}
