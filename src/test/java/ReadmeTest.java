import java.lang.reflect.InvocationTargetException;
import java.lang.reflect.Method;
import java.lang.reflect.Modifier;
import java.nio.file.Files;
import java.nio.file.Path;
import java.util.ArrayList;
import java.util.List;
import java.util.regex.Matcher;
import java.util.regex.Pattern;

/** README.md: each call of its example answers what stands behind it, and each call of the face is named. */
public final class ReadmeTest {
    private static final Pattern CALL = Pattern.compile("hostel\\.(\\w+)\\(([^)]*)\\);(?: +// (-?[0-9]+).*)?");

    public static void main(String[] args) throws Exception {
        String readme = Files.readString(Path.of("README.md"));
        int start = readme.indexOf("```java\n") + 8;
        List<String> lines = List.of(readme.substring(start, readme.indexOf("```", start)).split("\n"));
        Check.due("the first line", lines.get(0), "HostelBeds hostel = new HostelBeds();");
        HostelBeds hostel = new HostelBeds();
        for (String line : lines.subList(1, lines.size())) {
            tryCall(hostel, line);
        }
        Check.due("the formatted text that is told", Check.formatted(hostel, 8), "a 4/4 +1");
        for (Method method : HostelBeds.class.getDeclaredMethods()) {
            if (Modifier.isPublic(method.getModifiers())) {
                Check.due(method.getName() + " is named", readme.contains("`" + method.getName() + "`"), true);
            }
        }
        Check.finish();
    }

    private static void tryCall(HostelBeds hostel, String line) throws Exception {
        Matcher call = CALL.matcher(line);
        if (!call.matches()) {
            Check.due(line, "is no call with its answer", "one");
            return;
        }
        List<Object> arguments = new ArrayList<>();
        for (String argument : call.group(2).isEmpty() ? new String[0] : call.group(2).split(", ")) {
            arguments.add((int) (long) Long.decode(argument));
        }
        Class<?>[] types = new Class<?>[arguments.size()];
        java.util.Arrays.fill(types, int.class);
        Object got;
        try {
            got = HostelBeds.class.getMethod(call.group(1), types).invoke(hostel, arguments.toArray());
        } catch (InvocationTargetException e) {
            got = e.getCause();
        }
        Check.due(line, got, call.group(3) == null ? null : (Object) Integer.valueOf(call.group(3)));
    }
}
