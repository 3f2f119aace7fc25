import java.io.IOException;
import java.lang.invoke.MethodHandles;
import java.lang.reflect.Method;
import java.lang.reflect.Modifier;
import java.nio.file.Files;
import java.nio.file.Path;
import java.util.ArrayList;
import java.util.List;
import java.util.regex.Matcher;
import java.util.regex.Pattern;

/** The calls of README.md are compiled and run as they stand there, and each must answer what it says behind them. */
public final class ReadmeTest {
    private static final String RUN = "ReadmeRun";
    private static final Pattern ANSWERED = Pattern.compile(
        "\\s*(?:int (\\w+) = )?(.+\\));\\s*// (?:(-?\\d+|true|false)|throws (\\w+))(?::.*)?");

    private final List<String> members = new ArrayList<>();
    private final List<String> steps = new ArrayList<>();
    private final List<String> calls = new ArrayList<>();

    public static void main(String[] args) throws Exception {
        ReadmeTest test = new ReadmeTest();
        test.collect(Files.readAllLines(Path.of("README.md")));
        test.everyCallOfTheFaceIsShown();
        test.answersAreAsWritten();
        Check.finish("ReadmeTest");
    }

    /** A block that begins with a method goes beside the run, any other into it. */
    private void collect(List<String> lines) {
        boolean inBlock = false;
        boolean isMember = false;
        for (int i = 0; i < lines.size(); i++) {
            String line = lines.get(i);
            if (line.equals("```java")) {
                inBlock = true;
                isMember = lines.get(i + 1).startsWith("static ");
            } else if (line.startsWith("```")) {
                inBlock = false;
            } else if (inBlock && isMember) {
                members.add(line);
            } else if (inBlock) {
                steps.add(step(line));
            }
        }
    }

    private String step(String line) {
        Matcher told = ANSWERED.matcher(line);
        if (!told.matches()) {
            Check.due("an answer that can be read: " + line, line.contains("//"), false);
            return line;
        }
        calls.add(told.group(2));
        String name = "\"" + told.group(2).replace("\\", "\\\\").replace("\"", "\\\"") + "\"";
        if (told.group(4) != null) {
            return "{ boolean thrown = false; try { " + told.group(2) + "; } catch (java.util." + told.group(4)
                + " e) { thrown = true; } Check.due(" + name + " + \" throws\", thrown, true); }";
        }
        if (told.group(1) == null) {
            return "Check.due(" + name + ", " + told.group(2) + ", " + told.group(3) + ");";
        }
        return "int " + told.group(1) + " = " + told.group(2) + "; Check.due(" + name + ", " + told.group(1) + ", "
            + told.group(3) + ");";
    }

    private void everyCallOfTheFaceIsShown() {
        for (Method method : BuriedPairs.class.getDeclaredMethods()) {
            if (Modifier.isPublic(method.getModifiers())) {
                boolean shown = calls.stream().anyMatch(call -> call.startsWith("town." + method.getName() + "("));
                Check.due(method.getName() + " is shown with an answer", shown, true);
            }
        }
    }

    private void answersAreAsWritten() throws Exception {
        Path out = Files.createTempDirectory("readme");
        try {
            Path source = out.resolve(RUN + ".java");
            Files.writeString(source, "final class " + RUN + " {\n" + String.join("\n", members)
                + "\nstatic void run() {\n" + String.join("\n", steps) + "\n}\n}\n");
            int failed = new ProcessBuilder("javac", "-d", out.toString(), "-cp", System.getProperty("java.class.path"),
                source.toString()).inheritIO().start().waitFor();
            Check.due("README.md compiles, or else javac ends with", failed, 0);
            if (failed == 0) {
                Class<?> run = MethodHandles.lookup().defineClass(Files.readAllBytes(out.resolve(RUN + ".class")));
                run.getDeclaredMethod("run").invoke(null);
            }
        } finally {
            remove(out);
        }
    }

    private static void remove(Path directory) throws IOException {
        try (var files = Files.list(directory)) {
            for (Path file : (Iterable<Path>) files::iterator) {
                Files.delete(file);
            }
        }
        Files.delete(directory);
    }
}
