import java.io.IOException;
import java.lang.reflect.Method;
import java.lang.reflect.Modifier;
import java.nio.file.Files;
import java.nio.file.Path;
import java.util.HashMap;
import java.util.Map;
import java.util.regex.Matcher;
import java.util.regex.Pattern;

/** The example in README.md: each call answers what the remark behind it begins with; the table names every call. */
public final class ReadmeTest {
    private static final Pattern CALL = Pattern.compile("(?m)^x\\.(\\w+)\\((.*?)\\); +// (true|false|-?\\d+)");

    private static int number(String argument) {
        return argument.equals("OppositePairs.NONE") ? OppositePairs.NONE : Integer.decode(argument);
    }

    private static Object[] arguments(String listed) {
        if (listed.isEmpty()) {
            return new Object[0];
        }
        String[] each = listed.split(", ");
        Object[] all = new Object[each.length];
        for (int i = 0; i < all.length; i++) {
            all[i] = number(each[i]);
        }
        return all;
    }

    public static void main(String[] args) throws IOException, ReflectiveOperationException {
        String text = Files.readString(Path.of("README.md"));
        Map<String, Method> face = new HashMap<>();
        for (Method method : OppositePairs.class.getDeclaredMethods()) {
            if (Modifier.isPublic(method.getModifiers())) {
                face.put(method.getName(), method);
                Check.due(method.getName() + " is named", text.contains("`" + method.getName() + "`"), true);
            }
        }
        OppositePairs x = new OppositePairs();
        Matcher call = CALL.matcher(text);
        int found = 0;
        while (call.find()) {
            found++;
            Object got = face.get(call.group(1)).invoke(x, arguments(call.group(2)));
            Check.due(call.group(), String.valueOf(got), call.group(3));
        }
        long told = text.lines().filter(line -> line.startsWith("x.")).count();
        Check.due("each call has its answer", found, told);
        Check.due("there are calls", found > 10, true);
        Check.finish("ReadmeTest");
    }
}
