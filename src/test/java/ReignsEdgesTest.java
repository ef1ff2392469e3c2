import java.math.BigInteger;

/** Promises 26 to 30 at their edges: the bound, the first number beyond it, the empty, the full, what is refused. */
public final class ReignsEdgesTest {
    private static final String SEVEN_DRY = "c2,9;c2,9;c2,9;c2,9;c2,9;c2,9;c2,9;";

    public static void main(String[] args) {
        tonguesRefuse();
        tonguesByDays();
        tonguesByTenths();
        tonguesByPlaces();
        tonguesOfTheLowest();
        tonguesAheadOfAll();
        reignRefuses();
        draws();
        reignOfKnownNews();
        reignChangesPlaces();
        reignHandsAndCuts();
        reignFromAnyDay();
        keep();
        back();
        whatIsKept();
        count();
        countFull();
        Due.end("ReignsEdgesTest");
    }

    private static void tonguesRefuse() {
        Script.play("26", """
            told c2,9;n0,9;n0,0;
            tongues 0|1 -1|9|-8|MIN|MAX 5 0|1 ~ BAD
            tongues 0 0|8 -1|11|-10|MIN|MAX 0|1 ~ BAD
            tongues 0 0|8 0|10 -1|2|MIN|MAX ~ BAD
            tongues -1|2|6|MIN|MAX 0|8 0|10 0|1 ~ BAD
            tongues 2 9 11 2 ~ BAD
            tongues 0 0 0|10 0 ~ 0
            tongues 0 0 0|10 1 ~ 1
            pass 1 = 1
            tongues 1 0|8 0|5|10 0|1 ~ 1
            tongues 1 9 5 0 ~ BAD
            """);
        Script.play("26: six news", "told c2,9;n0,9;n0,9;n0,9;n0,9;n0,9;n0,0;\ntongues 5 1 0 0|1 ~ 1\ntongues 6 1 0 0 ~ BAD");
    }

    private static void chance(String court, String call, int above, int below) {
        Script.play("26", "told " + court + "\ntongues " + call + " 0 ~ " + above + "\ntongues " + call + " 1 ~ " + below);
    }

    private static void tonguesByDays() {
        int[] above = {0, 1, 19, 271, 3439, 40951, 468559, 5217031, 56953279};
        int below = 1;
        for (int days = 0; days <= 8; days++) {
            chance("c2,9;n0,9;", "0 " + days + " 1", above[days], below);
            below *= 10;
        }
        Script.play("26: days from 0 on, beyond 999, too", """
            told c2,9;n0,9;
            pass 24 = 0 x 41
            pass 15 = 0
            tongues 0 8 1 0 ~ 56953279
            tongues 0 8 1 1 ~ 100000000
            """);
    }

    private static void tonguesByTenths() {
        int[] above = {0, 56953279, 325089, 94235199, 384064, 255, 390369, 99993439, 390624, 99999999, 1};
        int[] below = {1, 100000000, 390625, 100000000, 390625, 256, 390625, 100000000, 390625, 100000000, 1};
        int[] once = {0, 1, 1, 3, 2, 1, 3, 7, 4, 9, 1};
        int[] of = {1, 10, 5, 10, 5, 2, 5, 10, 5, 10, 1};
        for (int x = 0; x <= 10; x++) {
            chance("c2,9;n0,9;", "0 8 " + x, above[x], below[x]);
            chance("c2,9;n0,9;", "0 1 " + x, once[x], of[x]);
        }
    }

    /** It takes as many slips as its place is far from the king, and one more. */
    private static void tonguesByPlaces() {
        chance(SEVEN_DRY + "n6,9999999;", "0 6 1", 0, 1);
        chance(SEVEN_DRY + "n6,9999999;", "0 7 1", 1, 10000000);
        chance(SEVEN_DRY + "n6,9999999;", "0 8 1", 73, 100000000);
        chance(SEVEN_DRY + "n6,9999999;", "0 8 9", 81310473, 100000000);
        chance(SEVEN_DRY + "n6,9999999;", "0 7 10", 1, 1);
        chance(SEVEN_DRY + "n6,9999999;", "0 6 10", 0, 1);
        chance(SEVEN_DRY + "n0,5555555;", "0 1 1", 1, 10);
        Script.play("26: by place", "told c2,9;c2,9;n1,99;\nswap 0 1 = 1\ntongues 0 1 2 0 ~ 1\ntongues 0 1 2 1 ~ 5");
    }

    private static void tonguesOfTheLowest() {
        String six = "c2,9;n0,9;n0,9;n0,9;n0,9;n0,9;n0,9;";
        chance(six, "5 5 1", 0, 1);
        chance(six, "5 6 1", 1, 1000000);
        chance(six, "5 8 1", 2341, 100000000);
        chance(six, "5 8 10", 1, 1);
        chance(six, "0 8 10", 1, 1);
        chance("c2,9;n0,9;n0,0;n0,9;", "1 1 0", 1, 1);
        chance("c2,9;n0,9;n0,0;n0,9;", "2 1 10", 0, 1);
        chance("c2,9;n0,9;n0,0;n0,9;", "2 2 1", 1, 100);
        Script.play("26: what is known now does not slip", """
            told c2,9;c2,9;n0,00;n0,99;
            tongues 1 1 10 0 ~ 0
            pass 1 = 1
            tongues 1 1 10 0 ~ 1
            tongues 1 1 3 0 ~ 3
            """);
    }

    private static void tonguesAheadOfAll() {
        chance("c2,9;c2,9;n1,00;", "0 1 3", 3, 10);
        chance("c2,9;c2,9;n1,09;", "0 1 3", 3, 10);
        chance("c2,9;c2,9;n1,90;", "0 1 3", 0, 1);
        // once it slipped to her the aunt has it and so believes it, else she doubts it from the next day on
        chance("c3,9;c2,9;n1,59;", "0 1 2", 0, 1);
        chance("c3,9;c2,9;n1,59;", "0 2 2", 1, 5);
        chance("c3,9;c2,9;n1,59;", "0 3 2", 109, 125);
    }

    private static void reignRefuses() {
        Script.play("27", """
            told c2,9;c2,9;n0,59;n1,44;
            reign -1|10000|-9999|MIN|MAX 1|60 0|1 ~ BAD
            reign 0|9999 0|61|-1|-60|MIN|MAX 0|1 ~ BAD
            reign 0|9999 1|60 -1|2|MIN|MAX ~ BAD
            reign 10000 61 2 ~ BAD
            """);
    }

    private static int draw(int z, int k) {
        BigInteger x = BigInteger.valueOf(7919).multiply(BigInteger.valueOf(z)).add(BigInteger.valueOf(6151L * k + 1));
        return x.multiply(x).mod(BigInteger.valueOf(65521)).intValueExact();
    }

    /** One courtier, one news that stays: only proofs tell. The last ones take x times x far beyond an int. */
    private static void draws() {
        for (int z : new int[] {0, 1, 2, 271, 272, 4999, 5000, 9998, 9999}) {
            DoubtCourt x = Due.laid("c2,9;n0,9;");
            int belief = 9;
            int known = 0;
            for (int k = 0; k < 60; k++) {
                int way = draw(z, k) % 8;
                belief = way == 0 ? Math.min(9, belief + 3) : way == 1 ? Math.max(0, belief - 3) : belief;
                known = belief <= 4 ? 1 : known;
                Due.same("27: known by " + z + " of " + (k + 1), x.reign(z, k + 1, 0), known);
                Due.same("27: beliefs by " + z + " of " + (k + 1), x.reign(z, k + 1, 1), belief);
            }
        }
    }

    /** Handed it can't be; whatever is drawn, it stays known. */
    private static void reignOfKnownNews() {
        for (int z = 0; z < 60; z++) {
            Script.play("27: known stays known", """
                told c2,9;c2,9;c2,9;n0,444;
                pass 1 = 1
                reign Z 60 0 = 1
                reign Z 1 0 ~ 1
                """.replace("Z", "" + z));
        }
    }

    /** Who is next to the king carries it up on the day: one alone doubts it, so where each is shows. */
    private static void reignChangesPlaces() {
        int[] met = new int[2];
        for (int z = 0; z < 600; z++) {
            int draw = draw(z, 0);
            if (draw % 8 != 3) {
                continue;
            }
            int c = draw / 8 % 3;
            int d = draw / 64 % 3;
            int doubter = c == 0 ? d : d == 0 ? c : 0;
            met[c == d ? 1 : 0]++;
            String row = doubter == 0 ? "099" : doubter == 1 ? "909" : "990";
            Script.play("27: changes places with " + d, "told c2,9;c2,9;c2,9;n" + doubter + "," + row + ";\nreign " + z + " 1 0 ~ 1\n"
                    + "reign " + z + " 1 1 ~ 18\ncourtier 0 2 = 0");
        }
        Due.isTrue("27: two change places, and one with itself", met[0] > 9 && met[1] > 9);
    }

    private static void reignHandsAndCuts() {
        int[] met = new int[3];
        for (int z = 0; z < 600; z++) {
            int draw = draw(z, 0);
            int c = draw / 8 % 2;
            int n = draw / 64 % 2;
            if (draw % 8 == 0) {
                met[0]++;
                // 7 and 3 more are 9; the other news is believed by 5
                Script.play("27: no more than 9", "told c2,9;c2,9;n0,77;n0,77;\nreign " + z + " 1 1 ~ 30\nreign " + z + " 1 0 ~ 0");
            } else if (draw % 8 == 1) {
                met[1]++;
                Script.play("27: no less than 0", "told c2,9;c2,9;n0,22;n0,22;\nreign " + z + " 1 1 ~ 6");
            } else if (draw % 8 == 2) {
                met[2]++;
                // handed to one who doubts it, it goes up from there; the first is next to the king
                Script.play("27: handed to " + c, "told c2,9;c2,9;n1,04;n1,04;\nreign " + z + " 1 0 ~ " + (c == 0 ? 1 : 0)
                        + "\nreign " + z + " 1 1 ~ 8\nnews " + n + " 0 = 1");
                // and to one who believes it, too: the king is not told that one on the day
                Script.play("27: handed to " + c, "told c2,9;c2,9;n0,09;n0,09;\nreign " + z + " 1 0 ~ " + (c == 0 ? 2 : 1)
                        + "\nreign " + z + " 1 1 ~ 18\nnews " + n + " 0 = 0");
            }
        }
        Due.isTrue("27: each is met", met[0] > 9 && met[1] > 9 && met[2] > 9);
    }

    private static void reignFromAnyDay() {
        String court = "told c0,1;c2,9;c3,0;n1,999;n2,595;\n";
        DoubtCourt x = Due.laid(court.substring(5).strip());
        int known = x.reign(77, 60, 0);
        int beliefs = x.reign(77, 60, 1);
        Script.play("27: the k-th counts from now on, nothing changes by it", court + "pass 24 = 0\nundo = 0\nreign 77 60 0 ~ " + known
                + "\nreign 77 60 1 ~ " + beliefs);
        Script.play("27: beyond 999", """
            told c2,9;n0,9;
            reign 0 1 1 ~ 6
            pass 24 = 0 x 41
            reign 0 1|2 1 ~ 6
            pass 15 = 0
            pass 1 ~ NO
            reign 0 1|2 1 ~ 6
            reign 0 60 0 = %d
            """.formatted(Due.laid("c2,9;n0,9;").reign(0, 60, 0)));
    }

    private static void keep() {
        Script.play("28", """
            told c2,9;n0,5;
            back ~ NO
            keep = 1
            prove 0 0 1 = 6
            keep = 2
            prove 0 0 1 = 7
            keep ~ FULL
            keep ~ FULL
            count 7 = 2
            back = 1
            belief 0 0 = 6
            keep = 2
            keep ~ FULL
            prove 0 0 3 = 9
            back = 1
            belief 0 0 = 6
            back = 0
            belief 0 0 = 5
            back ~ NO
            keep = 1
            """);
        Script.play("28: the same twice", """
            told c2,9;n0,5;
            keep = 1
            keep = 2
            keep ~ FULL
            back = 1
            back = 0
            back ~ NO
            """);
    }

    private static void back() {
        Script.play("29: nothing is undone then", """
            told c2,9;c2,9;n0,55;
            back ~ NO
            prove 0 0 1 = 6
            keep = 1
            prove 0 0 1 = 7
            swap 0 1 = 1
            count 6 = 3
            back = 0
            count 6 = 0
            undo ~ NO
            belief 0 0 = 6
            courtier 0 2 = 0
            prove 0 0 1 = 7
            undo = 0
            undo ~ NO
            belief 0 0 = 6
            """);
        Script.play("29: refused, it leaves what is undone", """
            told c2,9;n0,5;
            prove 0 0 1 = 6
            back ~ NO
            undo = 0
            belief 0 0 = 5
            """);
    }

    private static void whatIsKept() {
        String court = "told c0,1;c3,0;c2,9;n2,444;n1,950;n0,567;\npass 2 = 0\nswap 0 2 = 2\nprove 1 1 -1 = 3\nhand 2 1 = 0\n";
        String later = "pass 24 = 2\nswap 1 2 = 0\nprove 0 0 9 = 9\n";
        Script.alike("29: all as it stood", court + "keep = 1\n" + later + "back = 0", court);
        Script.alike("29: the last of two", "told c2,9;n0,5;\nkeep = 1\n" + court.replace("told c0,1;c3,0;c2,9;n2,444;n1,950;n0,567;",
                "told c0,1;c3,0;c2,9;n2,444;n1,950;n0,567;\nkeep = 1") + "keep = 2\n" + later + "back = 1", court);
        Script.play("29: but what is seen, the text, what can be undone", """
            told c2,9;c2,9;n1,59;
            see 9 9 = 1
            keep = 1
            see 9 8 = 2
            write 33 = 17
            back = 0
            count 5 = 2
            count 8 = 17
            keep = 1
            forget = 2
            wipe = 17
            back = 0
            count 5 = 0
            count 8 = 0
            """);
        Script.play("29: days", """
            told c2,9;n0,9;
            pass 7 = 0
            keep = 1
            pass 24 = 0
            count 2 = 31
            back = 0
            count 2 = 7
            """);
    }

    private static void count() {
        Script.play("30", """
            told c2,9;c2,9;n0,49;n1,99;
            count -1|9|10|MIN|MAX ~ BAD
            count 0|1 ~ 2
            count 2|3|5|6|7 ~ 0
            count 4 ~ 31
            count 8 ~ 22
            pass 1 = 1
            count 2|3|6 ~ 1
            count 4 ~ 31
            """);
        Script.play("30: beliefs of known news, too", """
            told c2,9;c2,9;n0,01;n0,09;n1,99;
            pass 24 = 2
            count 3 ~ 2
            count 4 ~ 28
            prove 0 0 5 = 5
            count 4 ~ 33
            """);
    }

    private static void countFull() {
        Script.play("30: at most", "told " + SEVEN_DRY + "n0,9999999;n1,9999999;n2,9999999;n3,9999999;n4,9999999;n6,9999999;\n" + """
            count 0 = 7
            count 1 = 6
            count 4 = 378
            count 8 = 101
            pass 24 = 0 x 41
            pass 15 = 0
            count 2 = 999
            count 6 = 8
            keep = 1
            keep = 2
            count 7 = 2
            see 9 0 = 1
            see 9 0 = 2
            see 9 0 = 3
            see 9 0 = 4
            see 9 0 = 5
            see 9 0 = 6
            count 5 = 6
            keep ~ FULL
            see 9 0 ~ FULL
            pass 1 ~ NO
            """);
        Script.play("30: at least", "told c2,9;n0,0;\ncount 0|1 = 1\ncount 4 = 0\npass 1 = 1\ncount 3 = 1\ncount 4 = 0");
        Script.play("30: all six are known", "told " + SEVEN_DRY + "n0,4999999;n0,4999999;n0,4999999;n0,4999999;n0,4999999;"
                + "n0,4999999;\npass 1 = 6\ncount 3 = 6\ncount 4 = 348");
    }
}
