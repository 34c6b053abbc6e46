import java.lang.management.ManagementFactory;
import java.lang.reflect.Field;
import java.lang.reflect.Method;
import java.lang.reflect.Modifier;
import java.nio.file.Files;
import java.nio.file.Path;
import java.util.Arrays;
import java.util.List;
import java.util.TreeSet;
import java.util.regex.Matcher;
import java.util.regex.Pattern;

/** What of LANGUAGE.md can be looked at by rows and by reflection; the room that a run takes. */
public final class LanguageTest {
    private static final Due D = new Due("LanguageTest");
    private static final Path SOURCE = Path.of("src/main/java/LitStrangers.java");
    private static final Path DOC = Path.of("../shared/DOC.md");

    public static void main(String[] args) throws Exception {
        String source = Files.readString(SOURCE);
        words(source);
        lengths(Files.readAllLines(SOURCE));
        face();
        members();
        room();
        D.close();
    }

    private static void words(String source) {
        String bare = source.replaceAll("(?s)/\\*.*?\\*/", " ").replaceAll("//[^\n]*", " ")
                .replaceAll("\"[^\"\n]*\"", "TEXT");
        for (String word : new String[] {"throw", "throws", "try", "catch", "synchronized", "assert", "package",
            "volatile", "native", "yield", "hashCode", "toString", "getClass", "System.out", "Random", "Thread"}) {
            D.due("word " + word, 0, found(bare, "\\b" + Pattern.quote(word) + "\\b"));
        }
        D.due("lambdas", 0, found(bare, "->|::"));
        D.due("equals", 0, found(bare, "\\.equals\\("));
        D.due("exact", 0, found(bare, "Exact\\("));
        D.due("imports", 1, found(bare, "\\bimport\\b"));
        D.due("import of Arrays", 1, found(bare, "import java\\.util\\.Arrays;"));
        D.due("endless loops", 0, found(bare, "while \\(true\\)|for \\(;;|; ;"));
        D.due("static blocks", 0, found(bare, "static \\{"));
        D.due("classes beyond twelve", 0, Math.max(0, found(bare, "\\bclass\\b") - 12));
        for (int i = 0; i < source.length(); i++) {
            if (source.charAt(i) > 126) {
                D.due("sign at " + i, 0, source.charAt(i));
            }
        }
    }

    private static int found(String text, String pattern) {
        Matcher m = Pattern.compile(pattern).matcher(text);
        int n = 0;
        while (m.find()) {
            n++;
        }
        return n;
    }

    private static void lengths(List<String> lines) {
        Pattern head = Pattern.compile("^( {4}| {8})[a-zA-Z].*\\) \\{$");
        for (int i = 0; i < lines.size(); i++) {
            Matcher m = head.matcher(lines.get(i));
            if (!m.matches()) {
                continue;
            }
            int end = i;
            while (!lines.get(end).equals(m.group(1) + "}")) {
                end++;
            }
            if (end - i + 1 > 60) {
                D.due("lines of " + lines.get(i).trim(), 60, end - i + 1);
            }
        }
    }

    private static void face() throws Exception {
        TreeSet<String> want = new TreeSet<>();
        Matcher m = Pattern.compile("public (int|long) (\\w+)\\(([^)]*)\\);").matcher(Files.readString(DOC));
        while (m.find()) {
            int parameters = m.group(3).isEmpty() ? 0 : m.group(3).split(",").length;
            want.add(m.group(1) + " " + m.group(2) + " " + parameters);
        }
        TreeSet<String> got = new TreeSet<>();
        for (Method method : LitStrangers.class.getDeclaredMethods()) {
            if (!Modifier.isPrivate(method.getModifiers())) {
                got.add(method.getReturnType() + " " + method.getName() + " " + method.getParameterCount());
                boolean ints = Arrays.stream(method.getParameterTypes()).allMatch(t -> t == int.class);
                D.due("ints of " + method.getName(), 1, ints && Modifier.isPublic(method.getModifiers()) ? 1 : 0);
            }
        }
        D.due("methods of the face", 36, want.size());
        D.due("the face, " + want + " against " + got, 1, want.equals(got) ? 1 : 0);
        D.due("final", 1, Modifier.isFinal(LitStrangers.class.getModifiers()) ? 1 : 0);
        D.due("constructors", 1, LitStrangers.class.getDeclaredConstructors().length);
    }

    private static void members() {
        TreeSet<String> names = new TreeSet<>();
        for (Method method : LitStrangers.class.getMethods()) {
            names.add(method.getName());
        }
        for (Field field : LitStrangers.class.getDeclaredFields()) {
            boolean hidden = Modifier.isPrivate(field.getModifiers()) || field.getName().equals("NONE");
            D.due("field " + field.getName(), 1, hidden ? 1 : 0);
        }
        for (Method method : LitStrangers.class.getDeclaredMethods()) {
            boolean clash = Modifier.isPrivate(method.getModifiers()) && names.contains(method.getName());
            D.due("name of " + method.getName(), 0, clash ? 1 : 0);
        }
        for (Class<?> inside : LitStrangers.class.getDeclaredClasses()) {
            D.due("static " + inside, 1, Modifier.isStatic(inside.getModifiers()) ? 1 : 0);
            int fields = 0;
            for (Field field : inside.getDeclaredFields()) {
                int modifiers = field.getModifiers();
                fields += Modifier.isStatic(modifiers) ? 0 : 1;
                D.due("static field " + field, 0, Modifier.isStatic(modifiers) && !Modifier.isFinal(modifiers) ? 1 : 0);
            }
            D.due("fields of " + inside, 1, fields <= 20 ? 1 : 0);
            for (Method method : inside.getDeclaredMethods()) {
                D.due("name of " + method, 0, names.contains(method.getName()) ? 1 : 0);
                D.due("parameters of " + method, 1, method.getParameterCount() <= 7 ? 1 : 0);
            }
        }
    }

    /** A room has some 7.3 million fields and elements for a whole run: 512 calls stay far below that. */
    private static void room() {
        com.sun.management.ThreadMXBean threads = (com.sun.management.ThreadMXBean) ManagementFactory.getThreadMXBean();
        long id = Thread.currentThread().getId();
        long before = threads.getThreadAllocatedBytes(id);
        LitStrangers x = new LitStrangers();
        for (int p = 0; p < 10; p++) {
            x.person(p % 3, p % 4);
        }
        x.image(0);
        for (int i = 0; i < 60; i++) {
            x.feed(1952541541, 1931485738, 540041248, 543778336, 1919902049);
            x.law();
            x.feed(1684107883, 544500077, 1702043698, 0, 0);
            x.end(12);
            x.orders();
            x.hush(10, 0);
            x.winter(i, 60);
            x.back(0);
        }
        long bytes = threads.getThreadAllocatedBytes(id) - before;
        D.due("bytes made, " + bytes, 1, bytes < 1_000_000 ? 1 : 0);
    }
}
