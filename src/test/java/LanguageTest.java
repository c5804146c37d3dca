import java.io.IOException;
import java.nio.file.Files;
import java.nio.file.Path;
import java.util.ArrayList;
import java.util.List;
import java.util.Map;
import java.util.Set;
import java.util.TreeMap;
import java.util.TreeSet;
import java.util.regex.Matcher;
import java.util.regex.Pattern;

/** The source of the class keeps to those rules of LANGUAGE.md that its text can show. */
public final class LanguageTest {
    private static final Set<String> FORBIDDEN = Set.of(
        "package", "import", "interface", "enum", "record", "extends", "implements", "protected",
        "float", "double", "null", "throw", "throws", "try", "catch", "finally", "synchronized", "assert",
        "instanceof", "native", "volatile", "transient", "var", "this", "super", "clone", "getClass");
    private static final Set<String> BEFORE_BRACKET = Set.of("if", "for", "switch", "return");
    private static final Pattern TOKEN = Pattern.compile("\\w+|->|::|<<|>>>|>>|[<>=!]=|\\S");
    private static final Pattern METHOD = Pattern.compile("    (public|private) [^=;]*?(\\w+)\\(([^)]*)\\) \\{");
    private static final Pattern COUNTED_LOOP = Pattern.compile(
        "for \\(int (\\w+) = \\w+; \\1 (<|<=|>=) \\w+( && \\w+)?; \\1(\\+\\+|--)\\) \\{");

    public static void main(String[] args) throws IOException {
        List<String> lines = new ArrayList<>();
        for (String line : Files.readAllLines(Path.of("src/main/java/ReactiveTicks.java"))) {
            lines.add(line.replaceAll("//.*", ""));
        }
        String source = String.join("\n", lines);
        words(source);
        arrays(lines);
        loops(lines);
        Map<String, String> bodies = bodies(lines);
        argumentsWithoutCalls(bodies);
        callsAreShallow(bodies);
        Check.end();
    }

    /** Rules 1, 2, 3 and 6: no word and no sign of what is left out, and no other class is named. */
    private static void words(String source) {
        Matcher token = TOKEN.matcher(source);
        int classes = 0;
        while (token.find()) {
            String word = token.group();
            boolean otherClass = word.matches("[A-Z]\\w*[a-z]\\w*") && !word.equals("ReactiveTicks");
            boolean sign = word.equals(".") || word.equals("->") || word.equals("::")
                || word.equals("\"") || word.equals("@");
            Check.due("the word " + word, FORBIDDEN.contains(word) || otherClass || sign ? 1 : 0, 0);
            classes += word.equals("class") ? 1 : 0;
        }
        Check.due("classes", classes, 1);
    }

    /** Rules 4 and 5: arrays are made in initialisers of fields that are not static, with a constant length. */
    private static void arrays(List<String> lines) {
        for (String line : lines) {
            if (line.matches(".*\\bnew\\b.*")) {
                boolean field = line.matches("    private final \\w+\\[\\] \\w+ = new \\w+\\[(\\d+|[A-Z_]+)\\];");
                Check.due("an array of a field:" + line, field ? 1 : 0, 1);
            }
            Check.due("one dimension:" + line, line.matches(".*\\]\\s*\\[.*") ? 1 : 0, 0);
            boolean initialiser = line.matches("\\s*static\\s*\\{.*");
            Check.due("no static initialiser:" + line, initialiser ? 1 : 0, 0);
        }
    }

    /** Rule 8: every loop has a counter against a bound. */
    private static void loops(List<String> lines) {
        for (String line : lines) {
            boolean loop = line.matches(".*\\b(for|while|do)\\b.*");
            Check.due("counted:" + line, loop && !COUNTED_LOOP.matcher(line.trim()).matches() ? 1 : 0, 0);
        }
    }

    /** Each method's name with its text between the brackets; rule 10 on parameters and length. */
    private static Map<String, String> bodies(List<String> lines) {
        Map<String, String> bodies = new TreeMap<>();
        for (int first = 0; first < lines.size(); first++) {
            Matcher method = METHOD.matcher(lines.get(first));
            if (!method.matches()) {
                continue;
            }
            int last = first;
            while (!lines.get(last).equals("    }")) {
                last++;
            }
            String name = method.group(2);
            Check.due("lines of " + name + " above 60", last - first + 1 > 60 ? 1 : 0, 0);
            Check.due("parameters of " + name + " above 7", method.group(3).split(",").length > 7 ? 1 : 0, 0);
            String before = bodies.put(name, String.join("\n", lines.subList(first + 1, last)));
            Check.due("one method named " + name, before == null ? 1 : 0, 1);
        }
        Check.due("the constructor and all methods are found", bodies.size() > 14 ? 1 : 0, 1);
        return bodies;
    }

    /** Rule 10: no call stands inside the arguments of another call. */
    private static void argumentsWithoutCalls(Map<String, String> bodies) {
        for (Map.Entry<String, String> method : bodies.entrySet()) {
            String before = "";
            // For each open bracket, whether it holds arguments.
            List<Boolean> open = new ArrayList<>();
            Matcher token = TOKEN.matcher(method.getValue());
            while (token.find()) {
                String word = token.group();
                if (word.equals("(")) {
                    boolean call = bodies.containsKey(before);
                    Check.due(before + " in arguments in " + method.getKey(), call && open.contains(true) ? 1 : 0, 0);
                    open.add(call);
                } else if (word.equals(")")) {
                    open.remove(open.size() - 1);
                }
                before = word;
            }
        }
    }

    /** Rules 3, 8 and 10: calls are of the class's own methods, never in a ring, at most six deep. */
    private static void callsAreShallow(Map<String, String> bodies) {
        Map<String, Set<String>> called = new TreeMap<>();
        Pattern call = Pattern.compile("(\\w+)\\s*\\(");
        for (Map.Entry<String, String> method : bodies.entrySet()) {
            Set<String> names = new TreeSet<>();
            Matcher found = call.matcher(method.getValue());
            while (found.find()) {
                if (!BEFORE_BRACKET.contains(found.group(1))) {
                    names.add(found.group(1));
                    int own = bodies.containsKey(found.group(1)) ? 1 : 0;
                    Check.due(found.group(1) + " in " + method.getKey() + " is its own", own, 1);
                }
            }
            called.put(method.getKey(), names);
        }
        for (String name : called.keySet()) {
            Check.due("calls from " + name + " deeper than six", deeperThan(6, name, called) ? 1 : 0, 0);
        }
    }

    private static boolean deeperThan(int most, String name, Map<String, Set<String>> called) {
        if (most == 0) {
            return true;
        }
        for (String next : called.getOrDefault(name, Set.of())) {
            if (deeperThan(most - 1, next, called)) {
                return true;
            }
        }
        return false;
    }
}
