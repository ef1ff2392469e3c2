/** A COURTIER is told by its number, wherever it stands: each call, asked behind changes of PLACES. */
public final class PlacesTest {
    /** Behind these the first stands last, the second first, the third in the middle. */
    private static final String AROUND = "swap 0 1 = 1\nswap 0 2 = 2\n";
    private static final String COURT = "told c2,9;c2,9;c2,9;n0,029;n2,934;\n" + AROUND;

    public static void main(String[] args) {
        whoIsWho();
        acts();
        undone();
        kept();
        days();
        whatComes();
        offices();
        seen();
        kinds();
        reign();
        Due.end("PlacesTest");
    }

    private static void whoIsWho() {
        Script.play("6", "told c0,1;c1,2;c3,9;n0,029;n2,934;\n" + AROUND + """
            courtier 0 0 = 0
            courtier 1 0 = 1
            courtier 2 0 = 3
            courtier 0 1 = 1
            courtier 1 1 = 2
            courtier 2 1 = NONE
            courtier 0 2 = 2
            courtier 1 2 = 0
            courtier 2 2 = 1
            courtier 0 3 = 1
            courtier 1 3 = 0
            courtier 2 3 = 2
            courtier 0 4 = 1
            courtier 1 4 = 3
            courtier 2 4 = 2
            """);
        Script.play("7, 8", COURT + """
            news 0 0 = 0
            news 1 0 = 2
            news 0 1 = 3
            news 1 1 = 6
            belief 0 0 = 0
            belief 1 0 = 2
            belief 2 0 = 9
            belief 0 1 = 9
            belief 1 1 = 3
            belief 2 1 = 4
            """);
    }

    private static void acts() {
        Script.play("10", COURT + """
            prove 0 0 1 = 1
            prove 1 0 1 = 3
            prove 2 0 -1 = 8
            belief 0 0 = 1
            belief 1 0 = 3
            belief 2 0 = 8
            """);
        Script.play("11", COURT + """
            hand 0 0 ~ NO
            hand 0 1 = 0
            news 0 0 = 1
            courtier 1 3 = 1
            hand 0 2 = 1
            news 0 0 = 2
            courtier 2 3 = 3
            """);
        Script.play("12", COURT + """
            swap 2 1 = 0
            courtier 0 2 = 2
            courtier 1 2 = 1
            swap 0 2 = 0
            courtier 1 2 = 1
            courtier 2 2 = 2
            """);
    }

    /** The third has it next, then the second, then the king. */
    private static void goesItsWay(String ahead) {
        Script.play("9, 14", ahead + """
            behind 0 0 -1 ~ 0
            behind 1 0 -1 ~ 2
            behind 2 0 -1 ~ 1
            behind 3 0 -1 ~ 9
            pass 1 = 0
            news 0 0 = 2
            news 1 0 = 1
            pass 1 = 1
            news 0 0 = 1
            news 1 0 = 9
            pass 1 = 2
            """);
    }

    private static void undone() {
        goesItsWay(COURT);
        goesItsWay(COURT + "swap 1 2 = 1\nundo = 2\n");
        goesItsWay(COURT + "swap 0 1 = 0\nswap 2 0 = 0\nundo = 3\nundo = 2\n");
    }

    private static void kept() {
        goesItsWay(COURT + "keep = 1\nswap 1 2 = 1\nback = 0\n");
        goesItsWay(COURT + "keep = 1\nswap 0 1 = 0\nkeep = 2\nswap 2 0 = 0\nback = 1\nback = 0\n");
        goesItsWay(COURT + "keep = 1\ntold c2,9;c2,9;c2,9;n0,029;n2,934;\ncourtier 1 2 = 1\n" + AROUND);
    }

    private static void days() {
        Script.play("9: an aunt who has it, one who does not", "told c3,9;c2,9;c3,9;n0,999;n2,999;n1,999;\n" + AROUND + """
            pass 1 = 0
            belief 0 0 = 9
            belief 2 0 = 8
            belief 0 1 = 8
            belief 2 1 = 9
            belief 0 2 = 8
            belief 2 2 = 8
            belief 1 0|1|2 = 9
            """);
        Script.play("9: kinds", "told c0,1;c2,9;c1,0;n1,690;\n" + AROUND + """
            pass 1 = 0
            news 0 0 = 2
            belief 0 0 = 7
            belief 1 0 = 9
            belief 2 0 = 2
            """);
        Script.play("9: the last of six news is believed more, too",
                "told c0,1;c2,9;n0,19;n0,29;n0,39;n0,59;n0,69;n0,79;\npass 1 = 3\n" + """
            belief 0 0 = 1
            belief 0 3 = 6
            belief 0 4 = 7
            belief 0 5 = 8
            """);
    }

    private static void whatComes() {
        Script.play("14: beliefs", COURT + """
            behind 0|3|40 0 0 ~ 0
            behind 0|3|40 0 1 ~ 2
            behind 0|3|40 0 2 ~ 9
            behind 0|1 1 1 ~ 3
            """);
        // only the second, who stands first, tells the king
        Script.play("15 to 19", COURT + """
            comes 0 ~ 3
            comes 1 ~ 2
            first ~ 1
            hush 0 2 0|1 ~ 0
            hush 0 3 0 ~ 1
            hush 0 3 1 ~ 2
            hush 1 2 0 ~ 1
            hush 1 2 1 ~ 2
            loose 0 2 0|1 ~ NONE
            loose 0 3 0|1 ~ 0
            sooner 0 0 ~ 1
            sooner 0 1 ~ 1
            sooner 1 0 ~ 12
            sooner 1 1 ~ 1
            prove 1 1 9 = 9
            loose 1 1 0|1 ~ NONE
            loose 1 2 0 ~ 1
            loose 1 2 1 ~ 2
            """);
        Script.play("26", COURT + """
            tongues 0 1 5 0 ~ 0
            tongues 0 2 5 0 ~ 3
            tongues 0 2 5 1 ~ 4
            """);
    }

    private static void offices() {
        Script.play("20", COURT + """
            offices -1 = 2
            offices 0 = 0
            offices 1 = 1
            prove 1 0 9 = 9
            offices 0 = 0
            offices 1 = 1
            prove 0 0 9 = 9
            prove 2 0 -9 = 0
            prove 1 1 9 = 9
            offices -1 = 1
            offices 0 = 2
            offices 1 = NONE
            """);
    }

    private static void seen() {
        Script.play("22, 24", COURT + """
            see 2 0 = 1
            which ~ 2
            see 1 1 = 2
            which ~ 2
            forget = 2
            see 0 0 = 1
            which ~ 1
            see 2 1 = 2
            see 1 2 = 3
            see 9 3 = 4
            which ~ 1
            forget = 4
            see 1 0 = 1
            which ~ 0
            """);
    }

    /** The first has it behind a day; whether it goes on from there is by its kind alone. */
    private static void kinds() {
        Script.play("25", "told c0,1;c2,9;c2,9;n2,499;\n" + AROUND + """
            see 2 2 = 1
            kinds 0 0 ~ 12
            kinds 1|2 0 ~ 0
            forget = 1
            see 0 2 = 1
            kinds 0 0 ~ 3
            kinds 1|2 0 ~ 15
            """);
    }

    private static int draw(int z) {
        long x = 7919L * z + 1;
        return (int) (x * x % 65521);
    }

    private static void reign() {
        int[] met = new int[4];
        for (int z = 0; z < 400; z++) {
            int draw = draw(z);
            int c = draw / 8 % 3;
            int d = draw / 64 % 3;
            if (draw % 8 > 3) {
                continue;
            }
            met[draw % 8]++;
            String call = "reign " + z + " 1 ";
            if (draw % 8 == 0) {
                Script.play("27: 3 more for " + c, "told c2,9;c2,9;c2,9;n0,900;\n" + AROUND + call + "1 ~ " + (c == 0 ? 9 : 12));
            } else if (draw % 8 == 1) {
                Script.play("27: 3 less for " + c, "told c2,9;c2,9;c2,9;n0,099;\n" + AROUND + call + "1 ~ " + (c == 0 ? 18 : 15));
            } else if (draw % 8 == 2) {
                Script.play("27: handed to " + c, "told c2,9;c2,9;c2,9;n0,000;\n" + AROUND + call + "0 ~ " + (c == 1 ? 1 : 0));
            } else {
                int ahead = c == 1 ? d : d == 1 ? c : 1;
                for (int who = 0; who < 3; who++) {
                    Script.play("27: " + c + " changes places with " + d, "told c2,9;c2,9;c2,9;n" + who + ",000;\n" + AROUND
                            + call + "0 ~ " + (who == ahead ? 1 : 0));
                }
            }
        }
        Due.isTrue("27: each is met", met[0] > 9 && met[1] > 9 && met[2] > 9 && met[3] > 9);
    }
}
