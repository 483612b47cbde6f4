import java.io.DataInputStream;
import java.io.IOException;
import java.io.InputStream;
import java.nio.file.Files;
import java.nio.file.Path;
import java.util.ArrayList;
import java.util.List;
import java.util.Set;
import java.util.regex.Matcher;
import java.util.regex.Pattern;

/** What of LANGUAGE.md shows in the compiled classes (rules 2, 4 and 10) and in the source (rules 1, 6 and 11). */
public final class LanguageTest {
    private static final Set<String> LIBRARY = Set.of("java/lang/Object.<init>", "java/lang/String.length",
            "java/lang/String.charAt", "java/lang/Math.max", "java/lang/Math.min", "java/lang/Integer.bitCount",
            "java/lang/System.arraycopy");
    private static final String EXCEPTIONS = "(IllegalState|IllegalArgument|IndexOutOfBounds|Arithmetic"
            + "|UnsupportedOperation|NoSuchElement|Runtime)Exception";
    private static final int MOST_LINES = 60;

    public static void main(String[] args) throws IOException {
        List<Class<?>> all = new ArrayList<>(List.of(HostelBeds.class.getDeclaredClasses()));
        all.add(HostelBeds.class);
        for (Class<?> some : all) {
            usesTheLibraryAsAllowed(some);
        }
        List<String> lines = Files.readAllLines(Path.of("src/main/java/HostelBeds.java"));
        imports(lines);
        throwsAsWritten(lines);
        methodsAreShort(lines);
        Check.finish();
    }

    /** Reads a class file's table of constants: each method of the library, and whether a call is bound at run time. */
    private static void usesTheLibraryAsAllowed(Class<?> some) throws IOException {
        String file = some.getName() + ".class";
        try (InputStream bytes = HostelBeds.class.getResourceAsStream(file);
                DataInputStream in = new DataInputStream(bytes)) {
            in.skipNBytes(8);
            int count = in.readUnsignedShort();
            String[] text = new String[count];
            int[][] pair = new int[count][];
            List<int[]> methods = new ArrayList<>();
            for (int i = 1; i < count; i++) {
                int tag = in.readUnsignedByte();
                switch (tag) {
                    case 1 -> text[i] = in.readUTF();
                    case 3, 4 -> in.skipNBytes(4);
                    case 5, 6 -> {
                        in.skipNBytes(8);
                        i++;
                    }
                    case 7, 8 -> pair[i] = new int[] {in.readUnsignedShort(), 0};
                    case 9, 10, 11, 12 -> {
                        pair[i] = new int[] {in.readUnsignedShort(), in.readUnsignedShort()};
                        if (tag == 10 || tag == 11) {
                            methods.add(pair[i]);
                        }
                    }
                    default -> {
                        Check.due(file + " joins texts by + or has a lambda (constant " + tag + ")", true, false);
                        return;
                    }
                }
            }
            for (int[] method : methods) {
                String name = text[pair[method[0]][0]] + "." + text[pair[method[1]][0]];
                boolean own = name.startsWith("HostelBeds");
                boolean thrown = name.matches("java/(lang|util)/" + EXCEPTIONS + "\\.<init>");
                Check.due(file + " may use " + name, own || thrown || LIBRARY.contains(name), true);
            }
        }
    }

    private static void imports(List<String> lines) {
        List<String> got = lines.stream().filter(line -> line.matches("\\s*(import|package)\\b.*")).toList();
        Check.due("imports", got, List.of("import java.util.NoSuchElementException;"));
    }

    private static void throwsAsWritten(List<String> lines) {
        for (String line : lines) {
            String code = line.strip();
            if (code.matches(".*\\bthrow\\b.*") && !code.matches("[/*].*")) {
                Check.due(code, code.matches("throw new " + EXCEPTIONS + "\\((\"[^\"]*\")?\\);"), true);
            }
            // allowed within bounds, but no call needs one
            Check.due(code, code.matches(".*\\b(try|catch|finally|synchronized|assert|instanceof)\\b.*"), false);
        }
    }

    private static void methodsAreShort(List<String> lines) {
        Pattern opening = Pattern.compile("( {4}| {8})(?! )(?!.*\\bclass\\b).*\\{");
        int found = 0;
        for (int start = 0; start < lines.size(); start++) {
            Matcher matcher = opening.matcher(lines.get(start));
            if (matcher.matches() && lines.get(start).contains(")")) {
                int length = lines.subList(start, lines.size()).indexOf(matcher.group(1) + "}");
                Check.due(lines.get(start).strip() + " has at most " + MOST_LINES + " lines", length < MOST_LINES, true);
                found++;
            }
        }
        Check.due("there are methods", found > 90, true);
    }
}
