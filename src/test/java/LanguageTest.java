import java.io.IOException;
import java.lang.reflect.Method;
import java.lang.reflect.Modifier;
import java.nio.file.Files;
import java.nio.file.Path;
import java.util.Set;
import java.util.TreeSet;
import java.util.regex.Matcher;
import java.util.regex.Pattern;

/** What of ../shared/LANGUAGE.md can be seen from the text of the class and from its face. */
public final class LanguageTest {
    private static final String FACE = "answer/2 any/2 clause/2 clauses/0 closed/1 deepen/3 drop/1 end/1 fault/1 feed/5 "
            + "instance/1 look/1 meets/4 needed/0 open/2 out/1 partners/2 pure/0 show/2 shown/2 solve/3 step/2 tried/1";

    public static void main(String[] args) throws IOException {
        String text = Files.readString(Path.of("src/main/java/OppositePairs.java"));
        String code = text.replaceAll("(?s)/\\*.*?\\*/", "").replaceAll("//[^\n]*", "");
        face();
        absent(code, "\\b(throw|throws|try|catch|synchronized|assert|package|native|instanceof)\\b");
        absent(code, "->|::|\\bnew [A-Z]\\w*\\([^)]*\\) *\\{|static *\\{|\\[\\]\\[\\]");
        absent(code, "\\b(String|StringBuilder|List|ArrayList|Object|double|float|Exact)\\b");
        absent(code, "(?m)^ +(public|protected) (?!static final int NONE|int \\w+\\(|boolean \\w+\\(|OppositePairs\\(\\))");
        absent(text, "[^\\x00-\\x7f]");
        Check.due("imports", code.replaceAll("(?m)^(?!import ).*\n?", "").trim(), "import java.util.Arrays;");
        Check.due("at most twelve classes", count(code, "\\bclass \\w+") <= 12, true);
        methods(code);
        Check.finish("LanguageTest");
    }

    private static void face() {
        Set<String> names = new TreeSet<>();
        for (Method method : OppositePairs.class.getDeclaredMethods()) {
            if (Modifier.isPublic(method.getModifiers())) {
                names.add(method.getName() + "/" + method.getParameterCount());
            } else {
                Check.due(method.getName() + " is private", Modifier.isPrivate(method.getModifiers()), true);
            }
        }
        Check.due("the face", String.join(" ", names), FACE);
        Check.due("final", Modifier.isFinal(OppositePairs.class.getModifiers()), true);
        Check.due("NONE", OppositePairs.NONE, -1);
        for (Class<?> inside : OppositePairs.class.getDeclaredClasses()) {
            Check.due("static", Modifier.isStatic(inside.getModifiers()), true);
            Check.due("some twenty fields", inside.getDeclaredFields().length <= 24, true);
        }
    }

    private static int count(String code, String pattern) {
        Matcher matcher = Pattern.compile(pattern).matcher(code);
        int found = 0;
        while (matcher.find()) {
            found++;
        }
        return found;
    }

    private static void absent(String code, String pattern) {
        Matcher matcher = Pattern.compile(pattern).matcher(code);
        Check.due("absent: " + pattern, matcher.find() ? matcher.group() : "", "");
    }

    private static void methods(String code) {
        Matcher matcher = Pattern.compile("(?m)^( +)(private|public)[^;={]*?(\\w+)\\(([^)]*)\\) \\{$").matcher(code);
        Set<String> open = new TreeSet<>();
        for (String each : FACE.split(" ")) {
            open.add(each.substring(0, each.indexOf('/')));
        }
        int found = 0;
        while (matcher.find()) {
            found++;
            String name = matcher.group(3);
            int end = code.indexOf("\n" + matcher.group(1) + "}", matcher.end());
            long lines = code.substring(matcher.start(), end).chars().filter(c -> c == '\n').count() + 1;
            Check.due(name + " is short", lines <= 60, true);
            Check.due(name + " takes at most seven", matcher.group(4).split(",").length <= 7, true);
            Check.due(name + " bears its own name", matcher.group(2).equals("private") && open.contains(name), false);
        }
        Check.due("methods are found", found > 80, true);
    }
}
