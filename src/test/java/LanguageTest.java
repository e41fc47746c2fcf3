import java.nio.file.Files;
import java.nio.file.Path;
import java.util.ArrayList;
import java.util.Arrays;
import java.util.List;
import java.util.Map;
import java.util.Set;
import java.util.TreeMap;
import java.util.TreeSet;
import java.util.regex.Matcher;
import java.util.regex.Pattern;

/** What can be seen of ../shared/LANGUAGE.md in the text of the class. */
public final class LanguageTest {
    private static final Path SOURCE = Path.of("src", "main", "java", "FireNets.java");
    private static final String[] NEVER = {
        "throw", "throws", "try", "catch", "finally", "synchronized", "assert", "package", "volatile", "transient",
        "native", "var", "equals", "hashCode", "toString", "Object", "Random", "Thread", "NaN", "protected",
        "super", "goto"
    };
    private static final Set<String> LIBRARY = Set.of(
        "Arrays.fill", "System.arraycopy", "Integer.bitCount", "Long.bitCount", "Math.max", "Math.min", "Math.abs");

    /** A method's first line: what stands before it, its name, its parameters. */
    private static final Pattern HEAD =
        Pattern.compile("^( {4,8})(?:[a-zA-Z][a-zA-Z\\[\\]]* )*([a-zA-Z]+)\\(([^()]*)\\) \\{$");

    private static final Due DUE = new Due("LanguageTest");

    public static void main(String[] args) throws java.io.IOException {
        String source = Files.readString(SOURCE);
        DUE.holds("signs 1 to 127 alone", source.chars().allMatch(c -> c >= 1 && c <= 127));
        String bare = withoutComments(source);
        DUE.holds("no texts, so no joined ones", bare.indexOf('"') < 0);
        for (String word : NEVER) DUE.holds("without " + word, !found(bare, "\\b" + word + "\\b"));
        DUE.holds("no lambda", !bare.contains("->"));
        DUE.holds("no method reference", !bare.contains("::"));
        imports(bare);
        library(bare);
        statics(bare);
        methods(bare);
        DUE.close();
    }

    private static boolean found(String text, String pattern) {
        return Pattern.compile(pattern).matcher(text).find();
    }

    private static List<String> all(String text, String pattern) {
        List<String> all = new ArrayList<>();
        Matcher matcher = Pattern.compile(pattern, Pattern.MULTILINE).matcher(text);
        while (matcher.find()) all.add(matcher.group());
        return all;
    }

    private static String withoutComments(String source) {
        return source.replaceAll("(?s)/\\*.*?\\*/", "").replaceAll("//[^\n]*", "");
    }

    private static void imports(String bare) {
        for (String line : all(bare, "^import .*$")) {
            DUE.holds(line, line.equals("import java.util.Arrays;"));
        }
    }

    /** Every call on a library class: the own classes' functions are called without their class. */
    private static void library(String bare) {
        for (String call : all(bare.replaceAll("(?m)^import .*$", ""), "\\b[A-Z][A-Za-z]*\\.[a-zA-Z]+")) {
            DUE.holds(call, LIBRARY.contains(call));
        }
    }

    private static void statics(String bare) {
        for (String line : all(bare, "^.*\\bstatic\\b.*$")) {
            boolean function = line.contains("(");
            boolean inside = line.contains(" class ");
            DUE.holds(line.trim(), function || inside || line.contains(" final "));
        }
        DUE.holds("no initialiser block", !found(bare, "static\\s*\\{"));
    }

    /** Some sixty lines a method, seven parameters at most, and objects made by constructors alone. */
    private static void methods(String bare) {
        Map<String, String> bodies = new TreeMap<>();
        String[] lines = bare.split("\n");
        for (int i = 0; i < lines.length; i++) {
            Matcher head = HEAD.matcher(lines[i]);
            if (!head.matches()) continue;
            int end = i;
            while (end < lines.length && !lines[end].equals(head.group(1) + "}")) end++;
            String told = lines[i].trim();
            String name = head.group(2);
            String body = String.join("\n", Arrays.copyOfRange(lines, i + 1, end));
            DUE.holds(told + " is short", end - i <= 60);
            DUE.holds(told + " takes few", head.group(3).split(",").length <= 7);
            boolean makes = Character.isUpperCase(name.charAt(0));
            DUE.holds(told + " makes no object", makes || !found(body, "\\bnew\\b"));
            // Methods of one name are looked at as one, which can only make the way deeper.
            bodies.merge(name, body, (a, b) -> a + "\n" + b);
        }
        DUE.holds("many methods were found", bodies.size() > 40);
        depths(bodies);
    }

    /** Calls go at most eight deep, each method of a recursion counted once. */
    private static void depths(Map<String, String> bodies) {
        Map<String, Set<String>> calls = new TreeMap<>();
        for (String name : bodies.keySet()) {
            Set<String> called = new TreeSet<>();
            for (String call : all(bodies.get(name), "\\b[A-Za-z]+(?=\\()")) {
                if (bodies.containsKey(call)) called.add(call);
            }
            calls.put(name, called);
        }
        for (String name : bodies.keySet()) {
            DUE.holds(name + " goes at most eight deep", depth(name, calls, new TreeSet<>()) <= 8);
        }
    }

    private static int depth(String name, Map<String, Set<String>> calls, Set<String> standing) {
        if (!standing.add(name)) return 0;
        int most = 0;
        for (String called : calls.get(name)) most = Math.max(most, depth(called, calls, standing));
        standing.remove(name);
        return most + 1;
    }
}
