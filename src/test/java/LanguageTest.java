import java.io.IOException;
import java.nio.file.Files;
import java.nio.file.Path;
import java.util.ArrayDeque;
import java.util.Deque;
import java.util.HashSet;
import java.util.Map;
import java.util.Set;
import java.util.TreeMap;
import java.util.TreeSet;
import java.util.regex.Matcher;
import java.util.regex.Pattern;

/** Rules of LANGUAGE.md that can be read off the source by its words. The source's path is the argument. */
public final class LanguageTest {
    private static final Pattern HEAD = Pattern.compile(
            "^( {4}| {8})(?:(?:public|private|static|final) )*(?:[A-Za-z]+(?:\\[\\])? )?([A-Za-z]+)\\(([^)]*)\\) \\{$");
    private static final Pattern CALLED = Pattern.compile("\\b([A-Za-z]+)\\(");
    private static final Set<String> NO_CALL = Set.of("if", "for", "while", "switch", "return");
    private static final Set<String> LIBRARY = Set.of("Math.max", "Math.min", "Math.abs", "Integer.bitCount", "System.arraycopy");

    public static void main(String[] args) throws IOException {
        String source = bare(Files.readString(Path.of(args[0])));
        words(source);
        library(source);
        methods(source.split("\n"));
        Due.end("LanguageTest");
    }

    /** Without comments and without what stands in texts. */
    private static String bare(String source) {
        return source.replaceAll("(?s)/\\*.*?\\*/", "").replaceAll("//[^\n]*", "").replaceAll("\"[^\"\n]*\"", "\"\"");
    }

    private static void words(String source) {
        String[] never = {"import", "package", "->", "::", "try", "catch", "finally", "throw", "throws", "synchronized", "assert",
            "volatile", "native", "protected", "var", "Object", "equals", "hashCode", "toString", "Random", "Thread", "@"};
        for (String word : never) {
            String pattern = Character.isLetter(word.charAt(0)) ? "\\b" + word + "\\b" : Pattern.quote(word);
            Due.isTrue("without " + word, !Pattern.compile(pattern).matcher(source).find());
        }
        Due.isTrue("no static block", !Pattern.compile("\\bstatic\\s*\\{").matcher(source).find());
        Due.isTrue("signs of ASCII alone", source.chars().allMatch(sign -> sign < 128));
        Matcher fixed = Pattern.compile("\\bstatic ((?:final )?)[A-Za-z\\[\\]]+ [A-Za-z_]+ =").matcher(source);
        while (fixed.find()) {
            Due.isTrue("static is final: " + fixed.group(), fixed.group(1).equals("final "));
        }
        int classes = 0;
        Matcher some = Pattern.compile("\\bclass\\b").matcher(source);
        while (some.find()) {
            classes++;
        }
        Due.isTrue("twelve classes at most", classes <= 12);
    }

    private static void library(String source) {
        Matcher used = Pattern.compile("\\b(Math|Integer|System|Long|Arrays|String|Character)\\.([A-Za-z]+)").matcher(source);
        while (used.find()) {
            Due.isTrue("of the library: " + used.group(), LIBRARY.contains(used.group()));
        }
    }

    private static void methods(String[] lines) {
        Map<String, Set<String>> calls = new TreeMap<>();
        for (int i = 0; i < lines.length; i++) {
            Matcher head = HEAD.matcher(lines[i]);
            if (!head.matches()) {
                continue;
            }
            int end = i;
            while (!lines[end].equals(head.group(1) + "}")) {
                end++;
            }
            String name = head.group(2);
            Due.isTrue(name + " has sixty lines at most", end - i + 1 <= 60);
            Due.isTrue(name + " takes seven numbers at most", head.group(3).split(",").length <= 7);
            Set<String> called = new HashSet<>();
            boolean makes = false;
            for (int k = i + 1; k < end; k++) {
                makes |= lines[k].contains("new ");
                Matcher some = CALLED.matcher(lines[k]);
                while (some.find()) {
                    if (!NO_CALL.contains(some.group(1))) {
                        called.add(some.group(1));
                    }
                }
            }
            Due.isTrue(name + " makes no object, but for a constructor", !makes || Character.isUpperCase(name.charAt(0)));
            calls.computeIfAbsent(name, key -> new TreeSet<>()).addAll(called);
        }
        Due.isTrue("the methods are found", calls.size() > 60);
        for (String name : calls.keySet()) {
            Due.isTrue(name + " calls eight deep at most", depth(calls, name, new ArrayDeque<>()) <= 8);
        }
    }

    private static int depth(Map<String, Set<String>> calls, String name, Deque<String> open) {
        if (open.contains(name)) {
            Due.isTrue("only chances calls itself, not " + name, name.equals("chances"));
            return 0;
        }
        open.push(name);
        int deepest = 0;
        for (String called : calls.getOrDefault(name, Set.of())) {
            deepest = Math.max(deepest, depth(calls, called, open));
        }
        open.pop();
        return deepest + 1;
    }
}
