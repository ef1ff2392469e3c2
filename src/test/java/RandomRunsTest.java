import java.util.Random;

/** Runs of drawn calls, the seeds fixed, on the program and on the model: all answers alike. */
public final class RandomRunsTest {
    private static final int RUNS = 500, CALLS = 240;

    private static final int[] CALL_WEIGHTS = {
        2, 2, 2, 4, 3, 5, // lay, wipe, fault, courtier, news, belief
        7, 8, 7, 7, 6, // pass, prove, hand, swap, undo
        4, 4, 3, 3, 3, 3, 4, 3, // behind .. mute
        6, 1, 6, 5, // see .. kinds
        2, 4, 3, 3, 5, 3}; // tongues, reign, keep, back, count, write

    public static void main(String[] args) {
        for (int seed = 0; seed < RUNS; seed++) {
            run(new Random(seed), seed);
        }
        Due.end("RandomRunsTest");
    }

    private static void run(Random random, int seed) {
        DoubtCourt court = new DoubtCourt();
        Model model = new Model();
        int told = 0;
        if (seed % 8 != 0) {
            told += tell(court, model, text(random), seed);
            Due.same(seed + ": lay()", court.lay(), model.lay());
        }
        for (int i = 0; i < CALLS; i++) {
            int call = drawCall(random);
            // a text more only where the 512 calls that are promised have room for it
            if (call == 0 && told < 90 && random.nextInt(8) == 0) {
                Due.same(seed + ": wipe()", court.wipe(), model.wipe());
                told += tell(court, model, text(random), seed);
            }
            call(court, model, call, numbers(random, call), seed + ", " + i + ": ");
        }
    }

    /** How many calls it took. */
    private static int tell(DoubtCourt court, Model model, String text, int seed) {
        for (char letter : text.toCharArray()) {
            Due.same(seed + ": write(" + letter + ")", court.write(letter), model.write(letter));
        }
        Due.same(seed + ": fault() of " + text, court.fault(), model.fault());
        return text.length() + 2;
    }

    private static int drawCall(Random random) {
        int sum = 0;
        for (int weight : CALL_WEIGHTS) sum += weight;
        int drawn = random.nextInt(sum);
        for (int i = 0; ; i++) {
            drawn -= CALL_WEIGHTS[i];
            if (drawn < 0) return i;
        }
    }

    private static String text(Random random) {
        StringBuilder text = new StringBuilder();
        int courtiers = 0;
        int most = 1 + random.nextInt(7);
        while (courtiers < most) {
            text.append('c').append(random.nextInt(4)).append(',')
                .append(random.nextInt(6) == 0 ? 9 : random.nextInt(7)).append(';');
            courtiers++;
            if (random.nextInt(12) == 0) text.append(newsOf(random, courtiers));
        }
        int more = 1 + random.nextInt(5);
        for (int n = 0; n < more; n++) text.append(newsOf(random, courtiers));
        if (random.nextInt(6) == 0) {
            String signs = "cn,;0123456789 x";
            text.setCharAt(random.nextInt(text.length()), signs.charAt(random.nextInt(signs.length())));
        }
        if (random.nextInt(12) == 0) text.setLength(random.nextInt(text.length()));
        return text.toString();
    }

    private static String newsOf(Random random, int courtiers) {
        StringBuilder item = new StringBuilder("n").append(random.nextInt(courtiers)).append(',');
        int low = random.nextInt(8);
        for (int c = 0; c < courtiers; c++) item.append(low + random.nextInt(10 - low));
        return item.append(';').toString();
    }

    private static int any(Random random, int least, int greatest) {
        switch (random.nextInt(24)) {
            case 0: return least - 1;
            case 1: return greatest + 1;
            case 2: return random.nextInt(8) == 0 ? random.nextInt() : least;
            case 3: return greatest;
            default: return least + random.nextInt(greatest - least + 1);
        }
    }

    private static int[] numbers(Random r, int call) {
        int c = any(r, 0, 5), d = any(r, 0, 5), n = any(r, 0, 3), what = any(r, 0, 1);
        switch (call) {
            case 3: return new int[] {c, any(r, 0, 4)};
            case 4: return new int[] {n, what};
            case 5: return new int[] {c, n};
            case 6: return new int[] {r.nextInt(3) == 0 ? any(r, 1, 24) : any(r, 1, 4)};
            case 7: return new int[] {c, n, any(r, -9, 9)};
            case 8: return new int[] {n, c};
            case 9: return new int[] {c, d};
            case 11: return new int[] {r.nextInt(2) == 0 ? any(r, 0, 40) : r.nextInt(6), n, any(r, -1, 5)};
            case 14: case 15: return new int[] {n, r.nextInt(2) == 0 ? any(r, 1, 20) : 1 + r.nextInt(8), what};
            case 16: return new int[] {n, what};
            case 17: return new int[] {any(r, -1, 3)};
            case 19: return new int[] {r.nextInt(4) == 0 ? 9 : c, r.nextInt(2) == 0 ? any(r, 0, 20) : r.nextInt(4)};
            case 22: return new int[] {c, n};
            case 23: return new int[] {n, r.nextInt(2) == 0 ? any(r, 0, 8) : r.nextInt(5), any(r, 0, 10), what};
            case 24: return new int[] {any(r, 0, 9999), any(r, 1, 60), what};
            case 27: return new int[] {any(r, 0, 8)};
            case 28: return new int[] {any(r, 32, 126)};
            default: return new int[] {n};
        }
    }

    private static void call(DoubtCourt x, Model y, int call, int[] a, String run) {
        String told = run + call + java.util.Arrays.toString(a);
        switch (call) {
            case 0: Due.same(told, x.lay(), y.lay()); break;
            case 1: if (a[0] == 0) Due.same(told, x.wipe(), y.wipe()); break;
            case 2: Due.same(told, x.fault(), y.fault()); break;
            case 3: Due.same(told, x.courtier(a[0], a[1]), y.courtier(a[0], a[1])); break;
            case 4: Due.same(told, x.news(a[0], a[1]), y.news(a[0], a[1])); break;
            case 5: Due.same(told, x.belief(a[0], a[1]), y.belief(a[0], a[1])); break;
            case 6: Due.same(told, x.pass(a[0]), y.pass(a[0])); break;
            case 7: Due.same(told, x.prove(a[0], a[1], a[2]), y.prove(a[0], a[1], a[2])); break;
            case 8: Due.same(told, x.hand(a[0], a[1]), y.hand(a[0], a[1])); break;
            case 9: Due.same(told, x.swap(a[0], a[1]), y.swap(a[0], a[1])); break;
            case 10: Due.same(told, x.undo(), y.undo()); break;
            case 11: Due.same(told, x.behind(a[0], a[1], a[2]), y.behind(a[0], a[1], a[2])); break;
            case 12: Due.same(told, x.comes(a[0]), y.comes(a[0])); break;
            case 13: Due.same(told, x.first(), y.first()); break;
            case 14: Due.same(told, x.hush(a[0], a[1], a[2]), y.hush(a[0], a[1], a[2])); break;
            case 15: Due.same(told, x.loose(a[0], a[1], a[2]), y.loose(a[0], a[1], a[2])); break;
            case 16: Due.same(told, x.sooner(a[0], a[1]), y.sooner(a[0], a[1])); break;
            case 17: Due.same(told, x.offices(a[0]), y.offices(a[0])); break;
            case 18: Due.same(told, x.mute(), y.mute()); break;
            case 19: Due.same(told, x.see(a[0], a[1]), y.see(a[0], a[1])); break;
            case 20: if (a[0] == 0) Due.same(told, x.forget(), y.forget()); break;
            case 21: Due.same(told, x.which(), y.which()); break;
            case 22: Due.same(told, x.kinds(a[0], a[1]), y.kinds(a[0], a[1])); break;
            case 23: Due.same(told, x.tongues(a[0], a[1], a[2], a[3]), y.tongues(a[0], a[1], a[2], a[3])); break;
            case 24: Due.same(told, x.reign(a[0], a[1], a[2]), y.reign(a[0], a[1], a[2])); break;
            case 25: if (a[0] < 2) Due.same(told, x.keep(), y.keep()); break;
            case 26: if (a[0] < 1) Due.same(told, x.back(), y.back()); break;
            case 27: Due.same(told, x.count(a[0]), y.count(a[0])); break;
            default: Due.same(told, x.write(a[0]), y.write(a[0])); break;
        }
    }
}
