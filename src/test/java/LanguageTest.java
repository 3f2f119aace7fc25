import java.io.File;
import java.io.PrintWriter;
import java.io.StringWriter;
import java.lang.reflect.Constructor;
import java.lang.reflect.Field;
import java.lang.reflect.Method;
import java.lang.reflect.Modifier;
import java.util.ArrayList;
import java.util.Arrays;
import java.util.HashMap;
import java.util.HashSet;
import java.util.List;
import java.util.Map;
import java.util.Set;
import java.util.TreeSet;
import java.util.regex.Matcher;
import java.util.regex.Pattern;
import java.util.spi.ToolProvider;

/** The document's face, and those rules of LANGUAGE.md that can be read off the compiled class. */
public final class LanguageTest {
    private static final String[] FACE = {
        "int feed(int,int,int,int,int)", "boolean end(int)", "int fault()", "int plan()", "int cable(int,int,int)",
        "int joint(int,int,int)", "int house(int,int)", "int slip(int,int,int,int,int,int)",
        "int trouble(int,int,int,int,int,int)", "int troubles(int)",
        "int heard(int,int,boolean,int,int,int,int,int)", "int metres(int,int,boolean,int,int,int)",
        "long fed(int,int,boolean,int)", "int served(int,int,boolean)", "int neighbours(int,int,boolean,int)",
        "int spare(int,int,int)", "int test(int,int,int,int,int,int,int)", "int tells(int,int,int,boolean)",
        "int read(int,int,boolean,int)", "int unread(int)", "int fitting(int,int)", "int fewest(int)",
        "int sure(int,int)", "int parts(int,int,boolean,int)", "int next(int,boolean,int,int)",
        "int walk(int,int,int)", "int distance(int,int,int,int,int)", "boolean want(int,int,int)",
        "int moves(int,int,int,int)", "int count(int)"};

    private static final Set<String> LIBRARY = Set.of(
        "java/lang/Object.\"<init>\"", "java/util/NoSuchElementException.\"<init>\"", "java/util/Arrays.fill",
        "java/lang/System.arraycopy", "java/lang/Math.max", "java/lang/Math.min", "java/lang/Math.abs",
        "java/lang/Integer.bitCount", "java/lang/Long.bitCount");

    private static final int MOST_DEEP = 8;
    private static final int MOST_LINES = 60;

    /** Per method, as javap names it: what it calls, within the class and outside. */
    private static final Map<String, Set<String>> CALLS = new HashMap<>();
    private static final Map<String, TreeSet<Integer>> LINES = new HashMap<>();

    public static void main(String[] args) throws Exception {
        List<Class<?>> classes = new ArrayList<>(Arrays.asList(BuriedPairs.class.getDeclaredClasses()));
        face();
        for (Class<?> inner : classes) {
            int marks = inner.getModifiers();
            Check.due(inner + " is static", Modifier.isStatic(marks), true);
            Check.due(inner + " is private", Modifier.isPrivate(marks), true);
        }
        Check.due("at most twelve classes", classes.size() < 12, true);
        classes.add(BuriedPairs.class);
        for (Class<?> one : classes) {
            members(one);
            disassemble(one);
        }
        callsAreFew();
        methodsAreShort();
        Check.finish("LanguageTest");
    }

    private static void face() throws Exception {
        Set<String> due = new TreeSet<>(Arrays.asList(FACE));
        Set<String> got = new TreeSet<>();
        for (Method method : BuriedPairs.class.getDeclaredMethods()) {
            if (!Modifier.isPrivate(method.getModifiers())) {
                Check.due(method + " is public and no more", method.getModifiers(), Modifier.PUBLIC);
                got.add(method.getReturnType() + " " + signature(method));
            }
        }
        Check.due("the face: " + got, got.equals(due), true);
        Check.due("public and final", BuriedPairs.class.getModifiers(), Modifier.PUBLIC | Modifier.FINAL);
        Constructor<?>[] makers = BuriedPairs.class.getDeclaredConstructors();
        Check.due("one constructor", makers.length, 1);
        Check.due("a public one", makers[0].getModifiers(), Modifier.PUBLIC);
        Check.due("NONE", BuriedPairs.NONE, -1);
        for (Field field : BuriedPairs.class.getDeclaredFields()) {
            boolean hidden = Modifier.isPrivate(field.getModifiers());
            Check.due(field + " is hidden", hidden || field.getName().equals("NONE"), true);
        }
        Class<?>[] thrown = BuriedPairs.class.getMethod("cable", int.class, int.class, int.class).getExceptionTypes();
        Check.due("cable throws one", thrown.length, 1);
        Check.due("the one", thrown[0] == java.util.NoSuchElementException.class, true);
    }

    private static String signature(Method method) {
        StringBuilder text = new StringBuilder();
        for (Class<?> type : method.getParameterTypes()) {
            text.append(text.length() == 0 ? "" : ",").append(type);
        }
        return method.getName() + "(" + text + ")";
    }

    private static void members(Class<?> one) {
        Set<String> taken = new HashSet<>();
        for (String method : FACE) {
            taken.add(method.replaceAll(".* (\\w+)\\(.*", "$1"));
        }
        for (Method method : one.getDeclaredMethods()) {
            boolean open = Modifier.isPublic(method.getModifiers());
            Check.due(method + " bears a name of the face", !open && taken.contains(method.getName()), false);
            Check.due(method + " takes seven at most", open || method.getParameterCount() <= 7, true);
        }
        int fields = 0;
        for (Field field : one.getDeclaredFields()) {
            boolean constant = Modifier.isStatic(field.getModifiers());
            Check.due(field + " is final if static", !constant || Modifier.isFinal(field.getModifiers()), true);
            fields += constant ? 0 : 1;
        }
        Check.due(one + " has twenty fields at most", fields <= 20, true);
    }

    private static void disassemble(Class<?> one) {
        StringWriter text = new StringWriter();
        String path = System.getProperty("java.class.path").split(File.pathSeparator)[0];
        ToolProvider javap = ToolProvider.findFirst("javap").orElseThrow();
        javap.run(new PrintWriter(text), new PrintWriter(text), "-c", "-p", "-l", "-cp", path, one.getName());
        String here = one.getName();
        Pattern head = Pattern.compile("^  (?:\\S.* )?([\\w$]+)\\(.*\\).*;$");
        Pattern call = Pattern.compile("// (?:Interface)?Method ([^:]+):");
        Pattern line = Pattern.compile("^ +line (\\d+): \\d+$");
        String method = "";
        boolean catches = false;
        for (String row : text.toString().split("\n")) {
            Matcher heads = head.matcher(row);
            Matcher calls = call.matcher(row);
            Matcher lines = line.matcher(row);
            catches |= row.contains("Exception table");
            if (heads.find()) {
                String name = heads.group(1);
                method = here + "." + (name.equals(here) ? "\"<init>\"" : name);
                CALLS.putIfAbsent(method, new HashSet<>());
                LINES.putIfAbsent(method, new TreeSet<>());
            } else if (calls.find()) {
                String called = calls.group(1);
                CALLS.get(method).add(called.contains(".") ? called : here + "." + called);
            } else if (lines.find()) {
                LINES.get(method).add(Integer.parseInt(lines.group(1)));
            }
        }
        Check.due(here + " catches something", catches, false);
    }

    private static void callsAreFew() {
        Check.due("javap told of methods", CALLS.size() > 100, true);
        for (Map.Entry<String, Set<String>> one : CALLS.entrySet()) {
            for (String called : one.getValue()) {
                boolean own = CALLS.containsKey(called);
                Check.due(one.getKey() + " calls " + called + ", known", own || LIBRARY.contains(called), true);
            }
        }
        for (String method : CALLS.keySet()) {
            List<String> deepest = deepest(method, new ArrayList<>());
            Check.due("too deep: " + deepest, deepest.size() > MOST_DEEP, false);
        }
    }

    private static List<String> deepest(String method, List<String> open) {
        if (open.contains(method)) {
            throw new IllegalStateException("recursion: " + open + " " + method);
        }
        List<String> inner = new ArrayList<>(open);
        inner.add(method);
        List<String> best = inner;
        for (String called : CALLS.get(method)) {
            List<String> other = CALLS.containsKey(called) ? deepest(called, inner) : inner;
            best = other.size() > best.size() ? other : best;
        }
        return best;
    }

    private static void methodsAreShort() {
        LINES.forEach((method, lines) -> {
            boolean maker = method.endsWith("\"<init>\"");
            boolean fits = maker || lines.isEmpty() || lines.last() - lines.first() < MOST_LINES;
            Check.due(method + " is short", fits, true);
        });
    }
}
