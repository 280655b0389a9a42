import java.io.PrintWriter;
import java.io.StringWriter;
import java.lang.reflect.Constructor;
import java.lang.reflect.Field;
import java.lang.reflect.Method;
import java.lang.reflect.Modifier;
import java.nio.file.Files;
import java.nio.file.Path;
import java.util.ArrayList;
import java.util.HashMap;
import java.util.HashSet;
import java.util.List;
import java.util.Map;
import java.util.Set;
import java.util.TreeSet;
import java.util.regex.Matcher;
import java.util.regex.Pattern;
import java.util.spi.ToolProvider;

/** The rules of LANGUAGE.md, as far as a program can look at them; run from the project's folder. */
public final class LanguageTest {
    private static final Due due = new Due("LanguageTest");
    private static final String FACE = "again(int) alias(int,int) back(int) carry(int,int,int) client(int,int) end(int) "
        + "fault() feed(int) flight(int,int,int) had(int) keep(int) kept(int,int) leave(int,int) level(int) "
        + "line(int,int,int,int) rule(int) say(int,int,int,int,int) sleep(int,int) subscribe(int,int,int) "
        + "subscription(int,int,int) text() tick(int) took(int,int,int) top() wake(int,int,int) "
        + "will(int,int,int,int,int)";

    public static void main(String[] args) throws Exception {
        face();
        List<Class<?>> classes = classes();
        due.holds("at most twelve classes", classes.size() <= 12);
        for (Class<?> type : classes) {
            fields(type);
            methods(type);
            constructors(type);
        }
        words();
        lengths();
        Map<String, Set<String>> calls = calls(classes);
        for (String method : calls.keySet()) {
            constructorCalls(method, calls.get(method));
            int deep = depth(method, calls, new HashSet<>());
            due.holds(method + " goes " + deep + " calls deep, eight are the most", deep <= 8);
        }
        due.finish();
    }

    /** Rule 1. */
    private static void face() {
        TreeSet<String> seen = new TreeSet<>();
        for (Method method : WildLevels.class.getDeclaredMethods()) {
            if (!Modifier.isPrivate(method.getModifiers())) {
                due.holds(method + " is public and answers an int",
                    Modifier.isPublic(method.getModifiers()) && method.getReturnType() == int.class);
                seen.add(signature(method));
            }
        }
        due.holds("the methods are those of the document: " + seen, String.join(" ", seen).equals(FACE));
        TreeSet<String> constants = new TreeSet<>();
        for (Field field : WildLevels.class.getDeclaredFields()) {
            if (!Modifier.isPrivate(field.getModifiers())) {
                constants.add(Modifier.toString(field.getModifiers()) + " " + field.getName());
            }
        }
        due.holds("the constants are those of the document: " + constants, constants.toString().equals(
            "[public static final BAD, public static final FULL, public static final NONE, public static final STATE]"));
        Constructor<?>[] constructors = WildLevels.class.getDeclaredConstructors();
        due.holds("one public constructor without parameters", constructors.length == 1
            && Modifier.isPublic(constructors[0].getModifiers()) && constructors[0].getParameterCount() == 0);
        due.holds("public and final", WildLevels.class.getModifiers() == (Modifier.PUBLIC | Modifier.FINAL));
    }

    private static String signature(Method method) {
        List<String> types = new ArrayList<>();
        for (Class<?> type : method.getParameterTypes()) {
            types.add(type.getName());
        }
        return method.getName() + "(" + String.join(",", types) + ")";
    }

    private static List<Class<?>> classes() {
        List<Class<?>> classes = new ArrayList<>();
        classes.add(WildLevels.class);
        for (Class<?> inside : WildLevels.class.getDeclaredClasses()) {
            due.holds(inside + " is static, not public", Modifier.isStatic(inside.getModifiers())
                && !Modifier.isPublic(inside.getModifiers()) && !Modifier.isProtected(inside.getModifiers()));
            due.is(inside + " has no classes inside", inside.getDeclaredClasses().length, 0);
            classes.add(inside);
        }
        return classes;
    }

    /** Rules 5 and 11. */
    private static void fields(Class<?> type) {
        int own = 0;
        for (Field field : type.getDeclaredFields()) {
            if (Modifier.isStatic(field.getModifiers())) {
                due.holds(field + " is a final number", Modifier.isFinal(field.getModifiers()) && field.getType() == int.class);
            } else {
                own++;
            }
        }
        due.holds(type + " has " + own + " fields, twenty are the most", own <= 20);
    }

    /** Rules 1 and 11. */
    private static void methods(Class<?> type) {
        Set<String> faceNames = new HashSet<>();
        for (String part : FACE.split(" ")) {
            faceNames.add(part.substring(0, part.indexOf('(')));
        }
        for (Method method : type.getDeclaredMethods()) {
            due.holds(method + " has at most seven parameters", method.getParameterCount() <= 7);
            boolean isFace = type == WildLevels.class && Modifier.isPublic(method.getModifiers());
            due.holds(method + " bears no name of the face", isFace || !faceNames.contains(method.getName()));
        }
    }

    /** Rule 12: what takes numbers alone can not be handed a part of the object that is made. */
    private static void constructors(Class<?> type) {
        for (Constructor<?> constructor : type.getDeclaredConstructors()) {
            for (Class<?> parameter : constructor.getParameterTypes()) {
                due.holds(constructor + " takes numbers alone", parameter == int.class);
            }
        }
    }

    /** Rule 12. */
    private static void constructorCalls(String method, Set<String> called) {
        for (String one : called) {
            due.holds(method + " calls constructors alone, not " + one, !method.endsWith(".<init>") || one.endsWith(".<init>")
                || one.startsWith("java/lang/Math."));
        }
    }

    private static String source() throws Exception {
        return Files.readString(Path.of("src/main/java/WildLevels.java"));
    }

    /** Rules 2, 4, 6, 13: words and signs that may not stand in the code. */
    private static void words() throws Exception {
        String code = source().replaceAll("(?s)/\\*.*?\\*/", "").replaceAll("//[^\n]*", "");
        due.holds("signs 10 and 32 to 126 alone", source().chars().allMatch(c -> c == '\n' || c >= 32 && c <= 126));
        String[] none = {"\\bthrow\\b", "\\btry\\b", "\\bcatch\\b", "\\bthrows\\b", "\\bsynchronized\\b", "\\bassert\\b",
            "->", "::", "\\bpackage\\b", "\\bimport\\b", "\\bSystem\\.(?!arraycopy\\b)", "\\bMath\\.(?!max\\b|min\\b)",
            "\\bequals\\b", "\\bhashCode\\b", "\\btoString\\b", "\\bObject\\b", "\\bThread\\b", "\\bnative\\b",
            "\\bstatic\\s*\\{", "\\bdouble\\b", "\\bfloat\\b", "\\bjava\\.", "@"};
        for (String word : none) {
            due.holds("no " + word + " in the code", !Pattern.compile(word).matcher(code).find());
        }
        for (String loop : new String[] {"while \\(true\\)", "for \\(;;\\)", "\\bdo\\b"}) {
            due.holds("no " + loop, !Pattern.compile(loop).matcher(code).find());
        }
    }

    /** Rule 11: some sixty lines a method. */
    private static void lengths() throws Exception {
        String[] lines = source().split("\n");
        Pattern head = Pattern.compile("^( {4}| {8})[a-zA-Z][^=;]*\\) \\{$");
        for (int i = 0; i < lines.length; i++) {
            Matcher m = head.matcher(lines[i]);
            if (m.matches()) {
                int end = i;
                while (end < lines.length && !lines[end].equals(m.group(1) + "}")) {
                    end++;
                }
                due.holds(lines[i].trim() + " has " + (end - i) + " lines", end - i <= 60);
            }
        }
    }

    /** Who calls whom, as javap tells it. */
    private static Map<String, Set<String>> calls(List<Class<?>> classes) throws Exception {
        Map<String, Set<String>> calls = new HashMap<>();
        Path folder = Path.of(WildLevels.class.getProtectionDomain().getCodeSource().getLocation().toURI());
        Pattern head = Pattern.compile("^  [^/]*?([\\w$]+)\\(.*\\);$");
        Pattern call = Pattern.compile("invoke.*// Method (?:([\\w/$]+)\\.)?\"?([\\w<>]+)\"?:");
        for (Class<?> type : classes) {
            StringWriter text = new StringWriter();
            PrintWriter out = new PrintWriter(text);
            ToolProvider javap = ToolProvider.findFirst("javap").orElseThrow();
            due.is("javap of " + type, javap.run(out, out, "-c", "-p", folder.resolve(type.getName() + ".class").toString()), 0);
            Set<String> mine = new HashSet<>();
            for (String line : text.toString().split("\n")) {
                Matcher h = head.matcher(line);
                Matcher c = call.matcher(line);
                if (h.matches()) {
                    String name = type.getName().equals(h.group(1)) ? "<init>" : h.group(1);
                    mine = calls.computeIfAbsent(type.getName() + "." + name, key -> new HashSet<>());
                } else if (c.find()) {
                    String owner = c.group(1) == null ? type.getName() : c.group(1);
                    mine.add(owner + "." + c.group(2));
                }
            }
        }
        due.holds("methods were found", calls.size() > 40);
        return calls;
    }

    /** The library's own calls are not counted; a recursion would have no end here, so it is told. */
    private static int depth(String method, Map<String, Set<String>> calls, Set<String> open) {
        if (!calls.containsKey(method)) {
            return 0;
        }
        if (!open.add(method)) {
            due.holds(method + " does not call itself", false);
            return 0;
        }
        int deepest = 0;
        for (String called : calls.get(method)) {
            deepest = Math.max(deepest, depth(called, calls, open));
        }
        open.remove(method);
        return deepest + 1;
    }
}
