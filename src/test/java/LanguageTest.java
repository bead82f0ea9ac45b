import java.io.IOException;
import java.lang.management.ManagementFactory;
import java.lang.reflect.Constructor;
import java.lang.reflect.Field;
import java.lang.reflect.Method;
import java.lang.reflect.Modifier;
import java.nio.file.Files;
import java.nio.file.Path;
import java.util.List;
import java.util.TreeSet;
import java.util.regex.Pattern;

/** What of LANGUAGE.md can be seen from outside: the face, the words of the file, sizes, and what calls make. */
public final class LanguageTest {
    private static final Path PROGRAM = Path.of("src/main/java/MineDesk.java");
    private static final Path DOCUMENT = Path.of("../shared/DOC.md");
    private static final List<String> FACE = List.of("blank(int,int,int)", "chord(int,int)", "count(int)",
        "edit(int,int,boolean)", "flag(int,int)", "follows(int,int,boolean)", "hint()",
        "make(int,int,int,int,int,int)", "open(int,int)", "permille(int,int)", "reason(int)", "reasonCell(int)",
        "share(int,int,int,int)", "shown(int,int)", "undo()", "ways()");
    private static final List<String> BANNED = List.of("->", "::", "\\btry\\b", "\\bcatch\\b", "\\bfinally\\b",
        "\\bsynchronized\\b", "\\bassert\\b", "\\bdouble\\b", "\\bfloat\\b", "Exact\\(", "\\bRandom\\b", "\\bvar\\b",
        "\\bwhile\\b", "System\\.(?!arraycopy)", "Arrays\\.(?!fill\\()", "Math\\.(?!min|max)", "Long\\.(?!bitCount)",
        "import (?!java\\.util\\.Arrays;)", "static \\{", "for \\(;;", "\\t");
    private static final int MOST_LINES = 60;
    private static final Checks checks = new Checks();

    public static void main(String[] args) throws IOException {
        face();
        faceAsWritten();
        members();
        words();
        methodsAreShort();
        callsMakeNothing();
        checks.end();
    }

    private static void due(String what, Object want, Object got) {
        checks.about("LANGUAGE.md");
        checks.due(what, want, got);
    }

    private static String told(Method method) {
        StringBuilder told = new StringBuilder();
        for (Class<?> type : method.getParameterTypes()) told.append(told.length() == 0 ? "" : ",").append(type);
        return method.getName() + "(" + told + ")";
    }

    private static void face() {
        TreeSet<String> shown = new TreeSet<>();
        for (Method method : MineDesk.class.getDeclaredMethods()) {
            if (Modifier.isPrivate(method.getModifiers()) || method.isSynthetic()) continue;
            due(method + " is public and of an object", Modifier.PUBLIC, method.getModifiers());
            shown.add(told(method));
        }
        due("the methods", new TreeSet<>(FACE), shown);
        due("public final", Modifier.PUBLIC | Modifier.FINAL, MineDesk.class.getModifiers());
        for (Field field : MineDesk.class.getDeclaredFields()) {
            due(field.getName(), !field.getName().equals("NONE"), Modifier.isPrivate(field.getModifiers()));
        }
        Constructor<?>[] constructors = MineDesk.class.getDeclaredConstructors();
        due("one constructor", 1, constructors.length);
        due("without parameters", 0, constructors[0].getParameterCount());
    }

    /** Names of parameters and what each may throw, too, stand as in the document. */
    private static void faceAsWritten() throws IOException {
        String document = Files.readString(DOCUMENT);
        String program = Files.readString(PROGRAM).replaceAll("\\s+", " ");
        String written = document.substring(document.indexOf("```java") + 7);
        int told = 0;
        for (String line : written.substring(0, written.indexOf("```")).split("\n")) {
            String declared = line.strip();
            if (!declared.startsWith("public ")) continue;
            told++;
            boolean whole = declared.endsWith("{") || declared.contains("=");
            String due = whole ? declared : declared.replace(";", " {");
            due(due, true, program.contains(due));
        }
        due("what is public", told, program.split("\\bpublic\\b").length - 1);
    }

    private static void members() {
        TreeSet<String> faceNames = new TreeSet<>();
        for (String method : FACE) faceNames.add(method.substring(0, method.indexOf('(')));
        Class<?>[] inside = MineDesk.class.getDeclaredClasses();
        due("at most twelve classes", true, inside.length + 1 <= 12);
        membersOf(MineDesk.class, new TreeSet<>());
        for (Class<?> one : inside) {
            due(one + " is static", true, Modifier.isStatic(one.getModifiers()));
            membersOf(one, faceNames);
        }
    }

    private static void membersOf(Class<?> one, TreeSet<String> faceNames) {
        int fields = 0;
        for (Field field : one.getDeclaredFields()) {
            if (!Modifier.isStatic(field.getModifiers())) fields++;
            else due(field + " is final", true, Modifier.isFinal(field.getModifiers()));
        }
        due(one + " has at most twenty fields", true, fields <= 20);
        for (Method method : one.getDeclaredMethods()) {
            due(method + " has at most seven parameters", true, method.getParameterCount() <= 7);
            due(method + " has no name of the face", false, faceNames.contains(method.getName()));
        }
    }

    private static void words() throws IOException {
        String program = Files.readString(PROGRAM);
        for (String banned : BANNED) due("finds " + banned, false, Pattern.compile(banned).matcher(program).find());
        due("characters 0 to 127 alone", true, program.chars().allMatch(c -> c < 128));
    }

    private static void methodsAreShort() throws IOException {
        int start = 0, line = 0;
        for (String text : Files.readAllLines(PROGRAM)) {
            line++;
            if (text.matches(" {4}( {4})?[a-z][^=;]*\\(.*")) start = line;
            if (text.matches(" {4}( {4})?}") && start > 0) {
                due("the method from line " + start + " is short", true, line - start < MOST_LINES);
                start = 0;
            }
        }
    }

    /** All calls of a run live in one room, so none but the constructor may make anything. */
    private static void callsMakeNothing() {
        com.sun.management.ThreadMXBean memory = (com.sun.management.ThreadMXBean) ManagementFactory.getThreadMXBean();
        long thread = Thread.currentThread().getId();
        play(new MineDesk());
        long start = memory.getThreadAllocatedBytes(thread);
        MineDesk desk = new MineDesk();
        long made = memory.getThreadAllocatedBytes(thread);
        play(desk);
        long played = memory.getThreadAllocatedBytes(thread);
        due("an object takes less than 100,000 bytes", true, made - start < 100000);
        due("calls make nothing (beside what measuring takes)", true, played - made < 2000);
    }

    private static void play(MineDesk desk) {
        for (int seed = 0; seed < 6; seed++) {
            if (desk.make(10, 10, 14, seed % 4, seed, 3) == 0) continue;
            desk.open(5, 5);
            for (int i = 0; i < 60 && desk.count(7) == 0; i++) {
                int hint = desk.hint();
                if (hint == 0) break;
                int r = (hint - 1) / 2 / 10, c = (hint - 1) / 2 % 10;
                desk.ways();
                if (desk.ways() != MineDesk.NONE) desk.share(r, c, 1, 0);
                if (hint % 2 == 0) desk.flag(r, c);
                else desk.open(r, c);
            }
            desk.count(8);
            desk.undo();
        }
    }
}
