import java.lang.management.ManagementFactory;
import java.lang.reflect.Field;
import java.lang.reflect.Method;
import java.lang.reflect.Modifier;
import java.nio.file.Files;
import java.nio.file.Path;
import java.util.Arrays;
import java.util.NoSuchElementException;
import java.util.Set;
import java.util.TreeSet;
import java.util.regex.Matcher;
import java.util.regex.Pattern;

/** The document's face, the rules of LANGUAGE.md that can be seen from outside, and the room that calls take. */
public final class LanguageTest {
    private static final String[] FACE = {
        "int feed(int, int, int, int, int)", "boolean end(int)", "boolean rule(int, int, int, int, int)",
        "int steady(int)", "int clear(int)", "long weight(int, int, boolean, int) throws",
        "long like(int, int, int) throws", "int same(int, int)", "boolean given(int)", "boolean counted(int, int)",
        "boolean joined(int, int, int)", "boolean thin(int, int)", "int likeness(int, int) throws", "int steps(int)",
        "long share(int, int, int, int) throws", "long left(int, int, int) throws", "int solid(int)", "int even(int)",
        "int row()", "int at(int)", "boolean put(int, int)", "long next(int, int, int) throws", "int whole(int)",
        "long squares(int, int) throws", "int fill(int)", "long filled(int, int) throws", "int amiss(int)",
        "long lower(int) throws", "int count(int)",
    };
    private static final String[] FORBIDDEN = {
        "->", "::", "\\bcatch\\b", "\\bfinally\\b", "\\bassert\\b", "\\bsynchronized\\b", "\\bvar\\b", "\\bthread\\b",
        "\\w+Exact\\b", "\\bstatic\\s*\\{", "\\bpackage\\b", "\\bprotected\\b", "\\bRandom\\b", "\\bSystem\\.(?!arraycopy)",
        "\\bMath\\.(?!abs|min|max)", "\\bdouble\\b", "\\bfloat\\b", "\\bwhile\\s*\\(\\s*true", "\\bfor\\s*\\(\\s*;\\s*;",
        "throw\\s+(?!new NoSuchElementException\\()",
    };
    private static int wrong = 0;

    public static void main(String[] args) throws Exception {
        theFaceIsTheDocuments();
        membersAreHidden(MemoryRows.class);
        theTextKeepsToTheRules();
        callsMakeNothing();
        System.out.println(wrong == 0 ? "the face, the rules and the room are kept" : wrong + " rules are broken");
        if (wrong != 0) {
            System.exit(1);
        }
    }

    private static void due(String what, boolean holds) {
        if (!holds) {
            wrong++;
            System.out.println("broken: " + what);
        }
    }

    private static String told(Method method) {
        StringBuilder text = new StringBuilder();
        text.append(method.getReturnType().getSimpleName()).append(' ').append(method.getName()).append('(');
        for (int i = 0; i < method.getParameterCount(); i++) {
            text.append(i == 0 ? "" : ", ").append(method.getParameterTypes()[i].getSimpleName());
        }
        text.append(')');
        if (method.getExceptionTypes().length == 1 && method.getExceptionTypes()[0] == NoSuchElementException.class) {
            text.append(" throws");
        }
        return text.toString();
    }

    private static void theFaceIsTheDocuments() {
        Set<String> found = new TreeSet<>();
        Set<String> names = new TreeSet<>();
        for (Method method : MemoryRows.class.getDeclaredMethods()) {
            if (Modifier.isPublic(method.getModifiers())) {
                found.add(told(method));
                names.add(method.getName());
            }
        }
        due("the face is " + found, found.equals(new TreeSet<>(Arrays.asList(FACE))));
        for (Class<?> inside : MemoryRows.class.getDeclaredClasses()) {
            for (Method method : inside.getDeclaredMethods()) {
                due(inside + " repeats the name " + method.getName(), !names.contains(method.getName()));
            }
        }
        int modifiers = MemoryRows.class.getModifiers();
        due("the class is public and final", Modifier.isPublic(modifiers) && Modifier.isFinal(modifiers));
        due("one constructor", MemoryRows.class.getDeclaredConstructors().length == 1);
    }

    private static void membersAreHidden(Class<?> type) {
        for (Method method : type.getDeclaredMethods()) {
            due(method + " is public or private",
                (method.getModifiers() & (Modifier.PUBLIC | Modifier.PRIVATE)) != 0);
            due(method + " takes at most seven", method.getParameterCount() <= 7);
        }
        for (Field field : type.getDeclaredFields()) {
            boolean open = field.getName().equals("NONE");
            due(field + " is hidden", Modifier.isPrivate(field.getModifiers()) != open);
            due(field + " is final if static",
                !Modifier.isStatic(field.getModifiers()) || Modifier.isFinal(field.getModifiers()));
        }
        due("at most twelve classes", type.getDeclaredClasses().length < 12);
        for (Class<?> inside : type.getDeclaredClasses()) {
            due(inside + " is static and hidden",
                Modifier.isStatic(inside.getModifiers()) && Modifier.isPrivate(inside.getModifiers()));
        }
    }

    private static void theTextKeepsToTheRules() throws Exception {
        String text = Files.readString(Path.of("src/main/java/MemoryRows.java"));
        String code = text.replaceAll("//[^\n]*", "").replaceAll("(?s)/\\*.*?\\*/", "").replaceAll("\"[^\"\n]*\"", "\"\"");
        for (String pattern : FORBIDDEN) {
            Matcher matcher = Pattern.compile(pattern).matcher(code);
            due("no " + pattern, !matcher.find());
        }
        Matcher imports = Pattern.compile("\\bimport\\s+([\\w.]+)").matcher(code);
        while (imports.find()) {
            due("import " + imports.group(1), imports.group(1).equals("java.util.NoSuchElementException"));
        }
    }

    // All calls of a run share one room, so that what answers without throwing makes no object.
    private static void callsMakeNothing() {
        com.sun.management.ThreadMXBean threads =
            (com.sun.management.ThreadMXBean) ManagementFactory.getThreadMXBean();
        long id = Thread.currentThread().getId();
        MemoryRows x = new MemoryRows();
        long sum = 0;
        long least = Long.MAX_VALUE;
        for (int round = 0; round < 20; round++) {
            long before = threads.getThreadAllocatedBytes(id);
            sum += dearCalls(x);
            least = Math.min(least, threads.getThreadAllocatedBytes(id) - before);
        }
        due("calls made " + least + " bytes of objects (" + sum + ")", least < 2000);
    }

    private static long dearCalls(MemoryRows x) {
        long sum = x.feed(0x01020380, 0x05068008, 0x090A0B80, 0x0D0E0F10, 0x11121314);
        sum += x.row();
        sum += x.feed(0x01FF0101, 0x01010000, 0, 0, 0) + (x.end(6) ? 1 : 0) + (x.rule(0, 4, 3, 3, 20) ? 1 : 0);
        sum += x.feed(0x01FF0101, 0x01010000, 0, 0, 0) + (x.end(3) ? 1 : 0) + (x.rule(1, 4, 3, 0, 20) ? 1 : 0);
        sum += x.feed(0x03E80010, 0x00200030, 0x00400000, 0, 0) + (x.end(10) ? 1 : 0) + (x.given(0) ? 1 : 0);
        for (int k = 0; k <= 4; k++) {
            sum += x.like(0, k, 0) + x.weight(0, k, true, 1) + x.left(0, k, 0) + x.same(0, 1) + x.solid(0);
            sum += x.fill(1) + x.filled(2, 1) + x.squares(1, 0) + x.next(1, k + 1, 1) + x.share(0, 4, 1, 0);
        }
        sum += (x.put(3, 1) && x.put(6, 2) && x.put(11, 3) ? 1 : 0) + x.amiss(1) + x.lower(0);
        return sum;
    }
}
