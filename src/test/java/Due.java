/** What the tests share: answers compared and counted, texts written letter by letter. */
final class Due {
    private static int right = 0;
    private static int wrong = 0;

    private Due() { }

    static void same(String call, long got, long want) {
        if (got == want) {
            right++;
            return;
        }
        wrong++;
        System.out.println(call + " answered " + got + ", due is " + want);
    }

    static void isTrue(String what, boolean holds) {
        same(what, holds ? 1 : 0, 1);
    }

    static void write(DoubtCourt court, String text) {
        for (int i = 0; i < text.length(); i++) {
            same("write " + text.charAt(i), court.write(text.charAt(i)), i + 1);
        }
    }

    /** A court of that text, which has no fault. */
    static DoubtCourt laid(String text) {
        DoubtCourt court = new DoubtCourt();
        write(court, text);
        same("fault of " + text, court.fault(), DoubtCourt.NONE);
        int courtiers = (int) text.chars().filter(letter -> letter == 'c').count();
        same("lay of " + text, court.lay(), courtiers);
        return court;
    }

    static void faultOf(String text, int want) {
        DoubtCourt court = new DoubtCourt();
        write(court, text);
        same("fault of " + text, court.fault(), want);
        if (want >= 0) {
            same("lay of " + text, court.lay(), DoubtCourt.NO);
            same("courtiers as at first", court.count(0), 6);
        }
    }

    static void end(String name) {
        System.out.println(name + ": " + right + " passed, " + wrong + " failed");
        if (wrong != 0) {
            System.exit(1);
        }
    }
}
