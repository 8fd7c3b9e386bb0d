import java.io.IOException;
import java.nio.file.Files;
import java.nio.file.Path;
import java.util.LinkedHashMap;
import java.util.Map;
import java.util.Set;
import java.util.TreeSet;
import java.util.regex.Matcher;
import java.util.regex.Pattern;

/** The rules of LANGUAGE.md that can be seen in the text of the program. */
public final class LanguageTest {
    private static final Checks checks = new Checks();
    private static final String FORBIDDEN =
        "package|import|float|double|null|throw|throws|try|catch|finally|synchronized|assert|instanceof"
        + "|interface|enum|record|protected|native|volatile|String|Object|Math|Integer|Long|System|Arrays"
        + "|length|clone|equals|hashCode|getClass|toString|super|goto|var";
    private static final Pattern METHOD =
        Pattern.compile("(?m)^    (?:public|private) (?:static )?(?:[a-z]+ )?(\\w+)\\(([^)]*)\\) \\{\n(.*?)^    \\}", Pattern.DOTALL);
    private static final Pattern CALL = Pattern.compile("\\b(\\w+)\\(");
    private static final Set<String> NO_CALLS = Set.of("if", "for", "while", "switch", "return");

    public static void main(String[] args) throws IOException {
        String text = Files.readString(Path.of("src/main/java/DefeasibleLogic.java"));
        String code = text.replaceAll("(?s)/\\*.*?\\*/", "").replaceAll("//[^\n]*", "");
        dueNoMatch(code, "\\b(?:" + FORBIDDEN + ")\\b", "a forbidden word");
        dueNoMatch(code, "->|::|\\]\\s*\\[|\"|'|@", "a forbidden sign");
        dueNoMatch(code, "static\\s*\\{", "a static initialiser");
        dueNoMatch(code, "(?m)^(?!    (?:public|private) static final (?:int|long) [A-Z_]+ = -?\\d+;$)[^(\n]*\\bstatic\\b[^(\n]*$",
            "a static field that is no constant");
        dueNoMatch(code, "(?m)^(?!    private final (?:int|long)\\[\\] \\w+ = new (?:int|long)\\[[A-Z_]+\\];$).*\\bnew\\b.*$",
            "an array made elsewhere than in a field");
        Map<String, Set<String>> calls = methods(code);
        checks.due("methods found, with the constructor, are at least", calls.size() >= 16, true);
        for (String method : calls.keySet()) {
            checks.due("calls below " + method + " are at most six deep", depth(calls, method, 0) <= 6, true);
        }
        checks.finish();
    }

    private static void dueNoMatch(String code, String pattern, String what) {
        Matcher matcher = Pattern.compile(pattern).matcher(code);
        while (matcher.find()) {
            checks.due(what + " '" + matcher.group().strip() + "'", true, false);
        }
    }

    /** The methods by name, each with the methods of the class that it calls. */
    private static Map<String, Set<String>> methods(String code) {
        Map<String, String> bodies = new LinkedHashMap<>();
        Matcher matcher = METHOD.matcher(code);
        while (matcher.find()) {
            String name = matcher.group(1);
            String body = matcher.group(3);
            checks.due("no second method " + name, bodies.containsKey(name), false);
            checks.due(name + " has at most seven parameters", matcher.group(2).split(",").length <= 7, true);
            checks.due(name + " has at most sixty lines", body.lines().count() <= 60, true);
            bodies.put(name, body);
        }
        Map<String, Set<String>> calls = new LinkedHashMap<>();
        bodies.forEach((name, body) -> calls.put(name, callsIn(name, body)));
        for (Set<String> called : calls.values()) {
            checks.due("calls go to methods of the class: " + called, calls.keySet().containsAll(called), true);
        }
        return calls;
    }

    private static Set<String> callsIn(String name, String body) {
        Set<String> found = new TreeSet<>();
        Matcher matcher = CALL.matcher(body);
        while (matcher.find()) {
            if (!NO_CALLS.contains(matcher.group(1))) {
                found.add(matcher.group(1));
                boolean nested = CALL.matcher(arguments(body, matcher.end())).find();
                checks.due(name + " has a call inside the arguments of " + matcher.group(1), nested, false);
            }
        }
        return found;
    }

    private static String arguments(String body, int start) {
        int open = 1;
        int end = start;
        while (open > 0) {
            char sign = body.charAt(end);
            open += sign == '(' ? 1 : sign == ')' ? -1 : 0;
            end++;
        }
        return body.substring(start, end);
    }

    /** Stops far above six, where only recursion can lead. */
    private static int depth(Map<String, Set<String>> calls, String method, int above) {
        int deepest = above + 1;
        if (above < 20) {
            for (String called : calls.getOrDefault(method, Set.of())) {
                deepest = Math.max(deepest, depth(calls, called, above + 1));
            }
        }
        return deepest;
    }
}
