import com.sun.management.ThreadMXBean;
import java.lang.management.ManagementFactory;
import java.lang.reflect.Constructor;
import java.lang.reflect.Field;
import java.lang.reflect.Method;
import java.lang.reflect.Modifier;
import java.nio.file.Files;
import java.nio.file.Path;
import java.util.ArrayList;
import java.util.Arrays;
import java.util.List;
import java.util.Map;
import java.util.Set;
import java.util.TreeMap;
import java.util.TreeSet;
import java.util.regex.Matcher;
import java.util.regex.Pattern;

/**
 * Looks at the class for the rules of LANGUAGE.md that a program can see. What is certain fails; what is
 * but likely, since it is told by the look of the source, or is a custom of this project, is only told.
 */
public final class RulesTests {
    private static int wrong = 0;

    private static void rule(int number, String what, boolean kept) {
        if (!kept) {
            wrong++;
            System.out.println("rule " + number + ": " + what);
        }
    }

    private static void custom(int number, String what, boolean kept) {
        if (!kept) {
            System.out.println("look at rule " + number + ": " + what);
        }
    }

    public static void main(String[] args) throws Exception {
        String source = Files.readString(Path.of("src/main/java/EchoValley.java"));
        String code = plain(source);
        face();
        members();
        words(code);
        library(code);
        lengths(code);
        depths(code);
        room();
        String texts = uncommented(source);
        for (int i = 0; i < texts.length(); i++) {
            rule(4, "a sign beyond 127", texts.charAt(i) < 128);
        }
        System.out.println(wrong == 0 ? "RulesTests: all kept" : "RulesTests: " + wrong + " not kept");
        if (wrong != 0) {
            System.exit(1);
        }
    }

    /** The code without comments, texts and characters. */
    private static String plain(String source) {
        return uncommented(source).replaceAll("\"[^\"\n]*\"", "\"\"").replaceAll("'[^'\n]*'", "' '");
    }

    private static String uncommented(String source) {
        String s = Pattern.compile("/\\*.*?\\*/", Pattern.DOTALL).matcher(source).replaceAll("");
        return s.replaceAll("//[^\n]*", "");
    }

    // ---- by reflection

    private static void face() throws Exception {
        String doc = Files.readString(Path.of("../shared/DOC.md"));
        String face = doc.substring(doc.indexOf("```java"), doc.indexOf("}\n```"));
        Set<String> due = new TreeSet<>();
        Matcher m = Pattern.compile("public (int|boolean) (\\w+)\\(([^)]*)\\);").matcher(face);
        while (m.find()) {
            due.add(m.group(1) + " " + m.group(2) + "(" + m.group(3).replaceAll(" \\w+(?=,|$)", "").replace(" ", "") + ")");
        }
        rule(1, "the document's face was found", due.size() == 36);
        Set<String> got = new TreeSet<>();
        for (Method method : EchoValley.class.getDeclaredMethods()) {
            if (method.isSynthetic()) {
                continue;
            }
            if (Modifier.isPublic(method.getModifiers())) {
                StringBuilder types = new StringBuilder();
                for (Class<?> type : method.getParameterTypes()) {
                    types.append(types.length() == 0 ? "" : ",").append(type.getName());
                }
                got.add(method.getReturnType().getName() + " " + method.getName() + "(" + types + ")");
                rule(1, "static: " + method, !Modifier.isStatic(method.getModifiers()));
            } else {
                rule(1, "not private: " + method, Modifier.isPrivate(method.getModifiers()));
            }
        }
        rule(1, "the face is " + got, got.equals(due));
        rule(1, "NONE", EchoValley.class.getField("NONE").getInt(null) == -1);
        rule(1, "fields of the face", EchoValley.class.getFields().length == 1);
        int modifiers = EchoValley.class.getModifiers();
        rule(1, "public and final", Modifier.isPublic(modifiers) && Modifier.isFinal(modifiers));
        Constructor<?>[] all = EchoValley.class.getDeclaredConstructors();
        rule(1, "constructors", all.length == 1 && Modifier.isPublic(all[0].getModifiers()));
    }

    private static void members() {
        List<Class<?>> classes = new ArrayList<>(Arrays.asList(EchoValley.class.getDeclaredClasses()));
        for (Class<?> inner : classes) {
            int modifiers = inner.getModifiers();
            rule(2, "static: " + inner, Modifier.isStatic(modifiers));
            rule(1, "private or package-visible: " + inner, !Modifier.isPublic(modifiers) && !Modifier.isProtected(modifiers));
        }
        Set<String> publicNames = new TreeSet<>();
        for (Method method : EchoValley.class.getDeclaredMethods()) {
            if (Modifier.isPublic(method.getModifiers())) {
                publicNames.add(method.getName());
            }
        }
        for (Method method : EchoValley.class.getDeclaredMethods()) {
            boolean hidden = !Modifier.isPublic(method.getModifiers());
            rule(1, "a public one's name: " + method, !hidden || !publicNames.contains(method.getName()));
        }
        for (Field field : EchoValley.class.getDeclaredFields()) {
            rule(1, "private: " + field, Modifier.isPrivate(field.getModifiers()) || field.getName().equals("NONE"));
        }
        classes.add(EchoValley.class);
        custom(11, "so many classes: " + classes.size(), classes.size() <= 12);
        for (Class<?> each : classes) {
            int fields = 0;
            for (Field field : each.getDeclaredFields()) {
                boolean isStatic = Modifier.isStatic(field.getModifiers());
                fields += isStatic ? 0 : 1;
                rule(5, "final: " + field, !isStatic || Modifier.isFinal(field.getModifiers()));
            }
            custom(11, "so many fields of " + each + ": " + fields, fields <= 20);
            for (Method method : each.getDeclaredMethods()) {
                rule(11, "parameters of " + method, method.getParameterCount() <= 7);
            }
        }
    }

    // ---- by the source

    private static void words(String code) {
        String[] banned = {"throw", "throws", "try", "catch", "finally", "synchronized", "assert"};
        for (String word : banned) {
            rule(6, "the word " + word, !Pattern.compile("\\b" + word + "\\b").matcher(code).find());
        }
        for (String line : code.split("\n")) {
            rule(2, "a lambda: " + line, !line.contains("->") || line.matches("\\s*(case\\b.*|default)\\s*->.*"));
        }
        rule(2, "a method reference", !code.contains("::"));
        rule(10, "joining of texts", !Pattern.compile("\"\\s*\\+|\\+\\s*\"").matcher(code).find());
        rule(9, "a loop without an end", !Pattern.compile("for \\(;;|while \\(true").matcher(code).find());
        rule(5, "static blocks", !Pattern.compile("\\bstatic\\s*\\{").matcher(code).find());
        rule(13, "a clock, a random source, a file", !Pattern.compile("nanoTime|currentTimeMillis|\\bRandom\\b|Math\\.random|java\\.(io|nio|net|time)|\\bThread\\b")
            .matcher(code).find());
    }

    /** What is imported, functions of the library called by their class, and (a custom of ours) what is made where. */
    private static void library(String code) {
        Matcher imports = Pattern.compile("\\bimport ([\\w.*]+);").matcher(code);
        while (imports.find()) {
            rule(4, "import " + imports.group(1), imports.group(1).startsWith("java.util."));
        }
        Matcher m = Pattern.compile("\\b(Math|Integer|Long|System|Arrays|StringBuilder|String)\\.(\\w+)").matcher(code);
        while (m.find()) {
            String called = m.group(2);
            rule(4, "the library's " + m.group(), !called.endsWith("Exact"));
            rule(4, "the library's " + m.group(), !m.group(1).equals("System") || called.equals("arraycopy"));
            rule(4, "the library's " + m.group(), !m.group(1).equals("Arrays") || Set.of("copyOf", "copyOfRange", "fill").contains(called));
        }
        Matcher lines = Pattern.compile("\n        [^\n]*\\bnew \\w+[^\n]*").matcher(code);
        while (lines.find()) {
            boolean field = lines.group().contains("private final");
            boolean constructor = Pattern.compile("\\w+\\[?i?\\]? = new ").matcher(lines.group()).find();
            custom(12, "made outside of constructors:" + lines.group(), field || constructor);
        }
    }

    /** How many methods are open at once, at the most: by their names, which are told apart by no class. */
    private static void depths(String code) {
        Map<String, Set<String>> calls = new TreeMap<>();
        String name = "";
        for (String line : code.split("\n")) {
            Matcher head = Pattern.compile("^ {4}(?: {4})?(?:public|private)[^;=(]* (\\w+)\\([^;]*\\) \\{").matcher(line);
            if (head.find()) {
                name = head.group(1);
                calls.computeIfAbsent(name, n -> new TreeSet<>());
                continue;
            }
            Matcher call = Pattern.compile("(\\w+)\\(").matcher(line);
            while (call.find() && !name.isEmpty()) {
                calls.get(name).add(call.group(1));
            }
        }
        for (String from : calls.keySet()) {
            int deep = depth(from, calls, 0);
            custom(11, from + " goes " + deep + " deep", deep <= 8);
        }
    }

    private static int depth(String name, Map<String, Set<String>> calls, int open) {
        if (!calls.containsKey(name) || open > 12) {
            return 0;
        }
        int deepest = 0;
        for (String next : calls.get(name)) {
            deepest = Math.max(deepest, depth(next, calls, open + 1));
        }
        return deepest + 1;
    }

    /** What some 500 calls make together, in bytes; by our custom nothing, but for what the machine itself may need. */
    private static void room() {
        ThreadMXBean threads = (ThreadMXBean) ManagementFactory.getThreadMXBean();
        EchoValley e = new EchoValley();
        allCalls(e);
        long before = threads.getCurrentThreadAllocatedBytes();
        for (int i = 0; i < 10; i++) {
            allCalls(e);
        }
        long made = threads.getCurrentThreadAllocatedBytes() - before;
        rule(12, "calls make " + made + " bytes", made < 50_000_000);
        custom(12, "calls make " + made + " bytes", made < 2000);
    }

    /** The text is: map 9 9;wall a up 8 0 9 0;man m 1 1 9;ear e 1 2;bell b 0 0 0;bell c 1 0 0; */
    private static void allCalls(EchoValley e) {
        e.feed(0x6d617020, 0x3920393b, 0x77616c6c, 0x20612075, 0x70203820);
        e.feed(0x30203920, 0x303b6d61, 0x6e206d20, 0x31203120, 0x393b6561);
        e.feed(0x72206520, 0x3120323b, 0x62656c6c, 0x20622030, 0x20302030);
        e.feed(0x3b62656c, 0x6c206320, 0x31203020, 0x303b2020, 0x20202020);
        e.back(2);
        rule(12, "the text", e.read() == 0 && e.place() == -1);
        e.hold(0);
        e.move(0, 7);
        e.stands(0, true);
        e.pace(9);
        e.restore(0);
        int sum = e.wall(0, 1) + e.returns(1, 1, 1, 2, 9) + e.at(1, 1, 1, 2, 9, 0, 1) + e.touch(1, 1, 1, 2, 10, 0, true);
        sum += e.heard(0, 0) + e.drowned(0, 0) + e.beats(1, 1, 9, 9) + e.stand(1, 9, 9, 0) + e.deaf(0, 0) + e.louder(0, 1);
        sum += e.canon(1, 1, 9, 9, 9) + e.put(0, 0, 0, 0) + e.hush(0, 0) + e.whose(0, 100) + e.along(1, 1, 1, 1, 9, 1);
        sum += e.nearest(1, 1, 1, 1, 9, 9) + e.first(1, 1, 0) + e.cross(0, 1, 99, 0) + e.chirp(1, 1, 1) + e.tell(1, 1, 9, 1400);
        sum += e.hidden(1, -1) + e.next(1, 9) + e.shout(0, 0, 9, 1400) + e.fitting(1, -1) + e.step(1, 9) + e.forget() + e.count(12);
        rule(7, "answers", sum > 0);
    }

    private static void lengths(String code) {
        String[] lines = code.split("\n");
        int from = 0;
        for (int i = 0; i < lines.length; i++) {
            if (lines[i].matches("\\s+(public|private)[^;=]*\\) \\{")) {
                from = i;
            }
            if (lines[i].matches(" {4}( {4})?\\}")) {
                custom(11, "long: " + lines[from].trim(), i - from <= 60);
                from = i;
            }
        }
    }
}
