import java.lang.reflect.InvocationTargetException;
import java.lang.reflect.Method;
import java.util.ArrayList;
import java.util.List;
import java.util.Map;
import java.util.TreeMap;

/**
 * Calls on one new object, told line by line:
 * <pre>
 *   told c2,9;n0,5;      writes that text behind an empty one and lays it, and both go well
 *   text c2,9            writes these letters behind those that are written
 *   pass 3 = 0           the call answers so
 *   pass 25 ~ BAD        the call answers so, and nothing changes by it
 *   pass 0|25|MIN ~ BAD  so for each of these numbers
 *   pass 24 = 0 x 41     so 41 times
 * </pre>
 */
final class Script {
    /** What the document lets an object be used for. */
    private static final int MOST_CALLS = 512;
    private static final Map<String, Method> FACE = new TreeMap<>();

    static {
        for (Method method : DoubtCourt.class.getMethods()) {
            if (method.getDeclaringClass() == DoubtCourt.class) {
                FACE.put(method.getName(), method);
            }
        }
    }

    private final String promise;
    private final DoubtCourt court = new DoubtCourt();
    private final List<String> calls = new ArrayList<>();
    private final StringBuilder told = new StringBuilder();

    private Script(String promise) {
        this.promise = promise;
    }

    /** Plays the lines, and finds every answer as they tell it. */
    static void play(String promise, String lines) {
        played(promise, lines);
    }

    /** Both end with the same court: who is there, places, news, beliefs, days. */
    static void alike(String promise, String lines, String others) {
        List<Integer> one = new ArrayList<>();
        List<Integer> other = new ArrayList<>();
        played(promise, lines).lookAtCourt(one);
        played(promise, others).lookAtCourt(other);
        Due.isTrue(promise + ": alike " + one + " and " + other, one.equals(other));
    }

    private static Script played(String promise, String lines) {
        Script script = new Script(promise);
        for (String line : lines.split("\n")) {
            if (!line.isBlank()) {
                script.line(line.strip());
            }
        }
        return script;
    }

    private void line(String line) {
        told.append(line).append(" / ");
        if (line.startsWith("told ")) {
            tell(line.substring(5));
        } else if (line.startsWith("text ")) {
            text(line.substring(5));
        } else {
            String[] parts = line.split(" [=~x] ");
            int times = parts.length > 2 ? Integer.parseInt(parts[2]) : 1;
            for (String call : each(parts[0])) {
                for (int i = 0; i < times; i++) {
                    answers(call, number(parts[1]), line.contains(" ~ "));
                }
            }
        }
    }

    private void tell(String text) {
        ask("wipe");
        text(text);
        answers("fault", DoubtCourt.NONE, false);
        answers("lay", (int) text.chars().filter(letter -> letter == 'c').count(), false);
    }

    private void text(String text) {
        int length = ask("count 8");
        for (int i = 0; i < text.length(); i++) {
            answers("write " + (int) text.charAt(i), length + i + 1, false);
        }
    }

    /** Every call that the bars leave open, the first number the slowest. */
    private static List<String> each(String call) {
        List<String> all = List.of("");
        for (String part : call.split(" ")) {
            List<String> longer = new ArrayList<>();
            for (String begun : all) {
                for (String one : part.split("\\|")) {
                    longer.add(begun.isEmpty() ? one : begun + " " + one);
                }
            }
            all = longer;
        }
        return all;
    }

    private void answers(String call, int want, boolean nothingChanges) {
        if (nothingChanges) {
            compare(call);
        }
        Due.same(promise + ": " + call + " in " + told, ask(call), want);
    }

    /** Two objects live all that this one has lived; behind the call one looks as the other without it. */
    private void compare(String call) {
        Script with = lived();
        Script without = lived();
        with.ask(call);
        without.ask("count 0");
        Due.isTrue(promise + ": nothing changes by " + call + " in " + told, with.looks().equals(without.looks()));
    }

    private Script lived() {
        Script other = new Script(promise);
        for (String call : calls) {
            other.ask(call);
        }
        return other;
    }

    private int ask(String call) {
        if (calls.size() >= MOST_CALLS) {
            throw new IllegalStateException("more calls than are promised: " + promise);
        }
        calls.add(call);
        String[] parts = call.split(" ");
        Object[] numbers = new Object[parts.length - 1];
        for (int i = 0; i < numbers.length; i++) {
            numbers[i] = number(parts[i + 1]);
        }
        try {
            return (Integer) FACE.get(parts[0]).invoke(court, numbers);
        } catch (InvocationTargetException thrown) {
            Due.isTrue(promise + ": " + call + " threw " + thrown.getCause(), false);
            return Integer.MIN_VALUE;
        } catch (IllegalAccessException closed) {
            throw new IllegalStateException(closed);
        }
    }

    private static int number(String word) {
        switch (word) {
            case "BAD": return DoubtCourt.BAD;
            case "NO": return DoubtCourt.NO;
            case "FULL": return DoubtCourt.FULL;
            case "NONE": return DoubtCourt.NONE;
            case "MIN": return Integer.MIN_VALUE;
            case "MAX": return Integer.MAX_VALUE;
            default: return Integer.parseInt(word);
        }
    }

    /** All that can be seen, as far as the calls go: the court, what is seen, undone, kept and written. */
    private List<Integer> looks() {
        List<Integer> looks = new ArrayList<>();
        for (int what = 5; what <= 8; what++) {
            looks.add(ask("count " + what));
        }
        lookAtCourt(looks);
        looks.add(ask("which"));
        looks.add(ask("fault"));
        while (canLookAgain() && looks.add(ask("undo")) && looks.get(looks.size() - 1) >= 0) {
            glance(looks);
        }
        while (canLookAgain() && looks.add(ask("back")) && looks.get(looks.size() - 1) >= 0) {
            glance(looks);
        }
        if (canLookAgain() && looks.add(ask("lay"))) {
            glance(looks);
        }
        return looks;
    }

    private boolean canLookAgain() {
        return calls.size() < MOST_CALLS - 30;
    }

    private void lookAtCourt(List<Integer> looks) {
        int courtiers = ask("count 0");
        int news = ask("count 1");
        for (int what = 0; what <= 4; what++) {
            looks.add(ask("count " + what));
        }
        for (int c = 0; c < courtiers; c++) {
            for (int what = 0; what <= 4; what++) {
                looks.add(ask("courtier " + c + " " + what));
            }
            for (int n = 0; n < news; n++) {
                looks.add(ask("belief " + c + " " + n));
            }
        }
        for (int n = 0; n < news; n++) {
            looks.add(ask("news " + n + " 0"));
            looks.add(ask("news " + n + " 1"));
        }
    }

    private void glance(List<Integer> looks) {
        int courtiers = ask("count 0");
        int news = ask("count 1");
        for (int what = 2; what <= 4; what++) {
            looks.add(ask("count " + what));
        }
        for (int c = 0; c < courtiers; c++) {
            looks.add(ask("courtier " + c + " 2"));
        }
        for (int n = 0; n < news; n++) {
            looks.add(ask("news " + n + " 0"));
            looks.add(ask("news " + n + " 1"));
        }
    }
}
