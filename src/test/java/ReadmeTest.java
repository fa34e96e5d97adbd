import java.lang.reflect.InvocationTargetException;
import java.lang.reflect.Method;
import java.lang.reflect.Modifier;
import java.nio.file.Files;
import java.nio.file.Path;
import java.util.regex.Matcher;
import java.util.regex.Pattern;

/** Every call that README.md shows answers what stands behind it there, and README.md names every call. */
public final class ReadmeTest extends Bench {
    private static final Pattern SHOWN = Pattern.compile("^rows\\.(\\w+)\\(([^)]*)\\); +// ([-\\w]+).*$");

    public static void main(String[] args) throws Exception {
        about("README.md");
        String text = Files.readString(Path.of("README.md"));
        MemoryRows rows = new MemoryRows();
        int shown = 0;
        for (String line : text.split("\n")) {
            Matcher matcher = SHOWN.matcher(line);
            if (matcher.matches()) {
                shown++;
                due(line, answer(rows, matcher.group(1), matcher.group(2)), matcher.group(3));
            } else if (line.startsWith("rows.")) {
                fault("no answer can be read from " + line);
            }
        }
        due("the page shows calls", shown > 0, true);
        for (Method method : MemoryRows.class.getDeclaredMethods()) {
            if (Modifier.isPublic(method.getModifiers()) && !text.contains("`" + method.getName() + "`")) {
                fault("the page does not name " + method.getName());
            }
        }
        finish("README.md holds, by " + shown + " calls");
    }

    private static String answer(MemoryRows rows, String name, String arguments) throws Exception {
        String[] words = arguments.isEmpty() ? new String[0] : arguments.split(", ");
        for (Method method : MemoryRows.class.getDeclaredMethods()) {
            if (method.getName().equals(name) && method.getParameterCount() == words.length) {
                return invoked(rows, method, words);
            }
        }
        return "no such call";
    }

    private static String invoked(MemoryRows rows, Method method, String[] words) throws Exception {
        Object[] values = new Object[words.length];
        for (int i = 0; i < words.length; i++) {
            boolean isFlag = method.getParameterTypes()[i] == boolean.class;
            values[i] = isFlag ? (Object) Boolean.valueOf(words[i]) : (Object) Long.decode(words[i]).intValue();
        }
        try {
            return method.invoke(rows, values).toString();
        } catch (InvocationTargetException e) {
            return e.getCause().getClass().getSimpleName();
        }
    }
}
