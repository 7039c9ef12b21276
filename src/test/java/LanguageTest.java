import java.nio.file.Files;
import java.nio.file.Path;
import java.util.ArrayList;
import java.util.HashMap;
import java.util.List;
import java.util.Map;
import java.util.Set;
import java.util.TreeSet;
import java.util.regex.Matcher;
import java.util.regex.Pattern;

/** The rules of LANGUAGE.md that can be read off the source: what is named, made and called in it. */
public final class LanguageTest {
    private static final Path SOURCE = Path.of("src", "main", "java", "DamageScreen.java");
    private static final int DEEPEST = 6;

    private static final Set<String> RULED_OUT = Set.of(
        "package", "import", "float", "double", "String", "Math", "Integer", "System", "Arrays", "Object", "null",
        "throw", "throws", "try", "catch", "finally", "synchronized", "assert", "instanceof", "->", "::", "\"", "@");
    private static final Set<String> NO_CALLS = Set.of("if", "for", "while", "switch", "return", "super", "this");

    private static final List<String> tokens = new ArrayList<>();
    private static final Map<String, Set<String>> calls = new HashMap<>();

    public static void main(String[] args) throws Exception {
        split(Files.readString(SOURCE));
        for (String token : tokens) {
            Check.isTrue("the source does without " + token, !RULED_OUT.contains(token));
        }
        readMethods();
        Check.isTrue("methods are found in the source", calls.size() > 11);
        for (String method : calls.keySet()) {
            Check.isTrue(method + " calls methods of the class alone", calls.keySet().containsAll(calls.get(method)));
            Check.isTrue("calls from " + method + " go at most six deep", depth(method, 1) <= DEEPEST);
        }
        Check.end();
    }

    private static void split(String source) {
        String code = source.replaceAll("(?s)/\\*.*?\\*/", " ").replaceAll("//[^\n]*", " ").replaceAll("'\\\\?.'", "0");
        Matcher matcher = Pattern.compile("\\w+|->|::|\\S").matcher(code);
        while (matcher.find()) {
            tokens.add(matcher.group());
        }
    }

    private static void readMethods() {
        int depth = 0;
        String method = "";
        for (int at = 0; at < tokens.size(); at++) {
            String token = tokens.get(at);
            if (depth == 1 && opensList(at) && tokens.get(endOfList(at + 1) + 1).equals("{")) {
                method = token;
                calls.put(method, new TreeSet<>());
            } else if (depth > 1 && isCall(at)) {
                calls.get(method).add(token);
                noCallInside(at);
            } else if (token.equals("new")) {
                boolean made = depth == 1 || depth == 2 && method.equals("DamageScreen");
                Check.isTrue("arrays are made in a field's initialiser or in the constructor", made);
            }
            depth += token.equals("{") ? 1 : token.equals("}") ? -1 : 0;
        }
    }

    private static boolean opensList(int at) {
        return Character.isJavaIdentifierStart(tokens.get(at).charAt(0)) && tokens.get(at + 1).equals("(");
    }

    private static boolean isCall(int at) {
        return opensList(at) && !NO_CALLS.contains(tokens.get(at));
    }

    private static void noCallInside(int call) {
        for (int at = call + 2; at < endOfList(call + 1); at++) {
            Check.isTrue("no call stands in the arguments of " + tokens.get(call), !isCall(at));
        }
    }

    private static int endOfList(int open) {
        int depth = 0;
        int at = open;
        do {
            depth += tokens.get(at).equals("(") ? 1 : tokens.get(at).equals(")") ? -1 : 0;
            at++;
        } while (depth > 0);
        return at - 1;
    }

    /** A method that calls itself, be it through others, comes out too deep as well. */
    private static int depth(String method, int above) {
        int deepest = above;
        for (String called : calls.get(method)) {
            if (above <= DEEPEST && calls.containsKey(called)) {
                deepest = Math.max(deepest, depth(called, above + 1));
            }
        }
        return deepest;
    }
}
