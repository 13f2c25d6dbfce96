import java.io.IOException;
import java.lang.reflect.InvocationTargetException;
import java.lang.reflect.Method;
import java.nio.file.Files;
import java.nio.file.Path;
import java.util.regex.Matcher;
import java.util.regex.Pattern;

/** Makes the calls that README.md shows, and holds the class to the answers beside them. */
public final class ReadmeTest {
    private static final Check CHECK = new Check();
    private static final String NEW = "PictureFile x = new PictureFile();";
    private static final Pattern CALL = Pattern.compile(
            "x\\.(\\w+)\\((.*)\\);\\s*// (?:(=|throws) (0x[0-9A-F]+|-?\\w+))?.*");

    /** The folder that README.md stands in comes as the argument; else it is this one. */
    public static void main(String[] args) throws IOException {
        Path readme = Path.of(args.length > 0 ? args[0] : ".", "README.md");
        PictureFile x = null;
        boolean inExample = false;
        for (String line : Files.readAllLines(readme)) {
            if (line.startsWith("```")) {
                inExample = line.equals("```java");
            } else if (inExample && line.equals(NEW)) {
                x = new PictureFile();
            } else if (inExample) {
                makeCall(x, line);
            }
        }
        CHECK.end("ReadmeTest");
    }

    private static void makeCall(PictureFile x, String line) {
        Matcher m = CALL.matcher(line);
        if (x == null || !m.matches()) {
            CHECK.dueText(line, "not understood", "a call");
            return;
        }
        String got = answer(x, m.group(1), m.group(2));
        boolean throwing = "throws".equals(m.group(3));
        CHECK.dueText(line, got, m.group(3) == null ? "null"
                : throwing ? "throws " + m.group(4) : textOf(m.group(4)));
    }

    private static String textOf(String due) {
        return due.startsWith("0x") ? Long.decode(due).toString() : due;
    }

    private static String answer(PictureFile x, String name, String inside) {
        String[] words = inside.isEmpty() ? new String[0] : inside.split(", ");
        for (Method f : PictureFile.class.getDeclaredMethods()) {
            if (f.getName().equals(name) && f.getParameterCount() == words.length) {
                return answer(x, f, words);
            }
        }
        return "no such call";
    }

    private static String answer(PictureFile x, Method f, String[] words) {
        Object[] given = new Object[words.length];
        for (int i = 0; i < words.length; i++) {
            long v = Long.decode(words[i]);
            if (f.getParameterTypes()[i] == long.class) {
                given[i] = v;
            } else {
                given[i] = (int) v;
            }
        }
        try {
            return String.valueOf(f.invoke(x, given));
        } catch (InvocationTargetException e) {
            return "throws " + e.getCause().getClass().getSimpleName();
        } catch (IllegalAccessException e) {
            return "not public";
        }
    }
}
