import java.io.IOException;
import java.lang.reflect.InvocationTargetException;
import java.lang.reflect.Method;
import java.lang.reflect.Modifier;
import java.nio.file.DirectoryStream;
import java.nio.file.Files;
import java.nio.file.Path;
import java.util.regex.Matcher;
import java.util.regex.Pattern;

/** What README.md tells: its examples answer what stands behind each call, and no call and no test is left out. */
public final class ReadmeTest {
    private static final Path README = Path.of("README.md");
    private static final Pattern BLOCK = Pattern.compile("```java\n(.*?)```", Pattern.DOTALL);
    private static final Pattern CALL = Pattern.compile("desk\\.(\\w+)\\(([^)]*)\\);\\s*// (throws )?([-\\w]+)(:.*)?");
    private static final Pattern PICTURE = Pattern.compile("// ([ \\d]+?)(   .*)?");
    private static final Checks checks = new Checks();

    private static MineDesk desk;
    private static int pictureRow;

    public static void main(String[] args) throws IOException {
        String text = Files.readString(README);
        Matcher block = BLOCK.matcher(text);
        int blocks = 0;
        for (; block.find(); blocks++) {
            for (String line : block.group(1).split("\n")) example(line.strip());
        }
        checks.about("the examples of README.md");
        checks.due("examples", true, blocks > 0);
        callsAreTold(text);
        testsAreTold(text);
        checks.end();
    }

    private static void example(String line) {
        checks.about(line);
        Matcher call = CALL.matcher(line);
        Matcher picture = PICTURE.matcher(line);
        if (call.matches()) {
            String want = call.group(3) == null ? call.group(4) : "throws " + call.group(4);
            checks.due("the call", want, answer(call.group(1), call.group(2).split(", *")));
            pictureRow = 0;
        } else if (picture.matches()) {
            checks.due("row " + pictureRow, picture.group(1).strip().replaceAll(" +", " "), shownRow(pictureRow));
            pictureRow++;
        } else {
            checks.due("a line that is no call", true, line.isEmpty() || line.equals("MineDesk desk = new MineDesk();"));
            if (!line.isEmpty()) desk = new MineDesk();
        }
    }

    private static String shownRow(int r) {
        StringBuilder row = new StringBuilder();
        for (int c = 0; c < desk.count(1); c++) row.append(c == 0 ? "" : " ").append(desk.shown(r, c));
        return row.toString();
    }

    private static String answer(String name, String[] written) {
        int given = written[0].isEmpty() ? 0 : written.length;
        for (Method method : MineDesk.class.getMethods()) {
            if (!method.getName().equals(name) || method.getParameterCount() != given) continue;
            Object[] values = new Object[given];
            for (int i = 0; i < given; i++) values[i] = value(method.getParameterTypes()[i], written[i]);
            return answer(method, values);
        }
        return "no such call";
    }

    private static Object value(Class<?> type, String written) {
        if (type == boolean.class) return Boolean.valueOf(written);
        return Integer.valueOf(written);
    }

    private static String answer(Method method, Object[] values) {
        try {
            Object got = method.invoke(desk, values);
            return got == null ? "nothing" : got.toString();
        } catch (InvocationTargetException e) {
            return "throws " + e.getCause().getClass().getSimpleName();
        } catch (IllegalAccessException e) {
            return "can't be called";
        }
    }

    private static void callsAreTold(String text) {
        for (Method method : MineDesk.class.getDeclaredMethods()) {
            if (!Modifier.isPublic(method.getModifiers())) continue;
            checks.about("every call is told in README.md");
            Matcher told = Pattern.compile("\n\\| `" + method.getName() + "\\(([^)]*)\\)` \\|").matcher(text);
            boolean found = told.find();
            checks.due(method.getName(), true, found);
            if (!found) continue;
            int parameters = told.group(1).isEmpty() ? 0 : told.group(1).split(",").length;
            checks.due("the parameters of " + method.getName(), method.getParameterCount(), parameters);
        }
    }

    private static void testsAreTold(String text) throws IOException {
        try (DirectoryStream<Path> tests = Files.newDirectoryStream(Path.of("src/test/java"), "*Test.java")) {
            for (Path test : tests) {
                checks.about("every test is told in README.md");
                String name = test.getFileName().toString().replace(".java", "");
                checks.due(name, true, text.contains("`" + name + "`"));
            }
        }
        checks.due(".ci/run", true, text.contains("    .ci/run\n"));
    }
}
