import java.lang.reflect.Method;
import java.lang.reflect.Modifier;
import java.net.URL;
import java.net.URLClassLoader;
import java.nio.file.Files;
import java.nio.file.Path;
import java.util.regex.Matcher;
import java.util.regex.Pattern;
import javax.tools.ToolProvider;

/** README.md tells the truth: its lines of Java are compiled as they stand, and answer what is told behind them. */
public final class DriftKinReadme {
    private static final Path README = Path.of("README.md");
    private static final Pattern BLOCK = Pattern.compile("(?s)```java\n(.*?)```");
    private static final Pattern ANSWERED = Pattern.compile("(kin\\.\\w+\\(.*\\));\\s*// ([\\w.]+):.*");
    private static final Pattern CALL = Pattern.compile("`(\\w+)`");

    private static final int FEWEST_ANSWERS = 10;

    private static int answers = 0;
    private static int wrong = 0;

    /** Called by the lines of the README. */
    public static void due(String call, long got, long want) {
        answers++;
        if (got == want) return;
        wrong++;
        System.out.println("README: " + call + " answered " + got + ", told is " + want);
    }

    public static void main(String[] args) throws Exception {
        String text = Files.readString(README);
        allCallsTold(text);
        answers = 0;
        Matcher block = BLOCK.matcher(text);
        if (block.find()) run(block.group(1));
        if (answers < FEWEST_ANSWERS) due("count of told answers", answers, FEWEST_ANSWERS);
        System.out.println(wrong == 0 ? "the README holds" : wrong + " things in README.md do not hold");
        if (wrong != 0) System.exit(1);
    }

    private static void allCallsTold(String text) {
        StringBuilder told = new StringBuilder(" ");
        Matcher name = CALL.matcher(text);
        while (name.find()) told.append(name.group(1)).append(' ');
        for (Method m : DriftKin.class.getDeclaredMethods()) {
            if (!Modifier.isPublic(m.getModifiers())) continue;
            due(m.getName() + " told", told.indexOf(" " + m.getName() + " ") >= 0 ? 1 : 0, 1);
        }
    }

    private static void run(String lines) throws Exception {
        StringBuilder code = new StringBuilder("public final class ReadmeLines {\n    public static void main(String[] args) {\n");
        for (String line : lines.split("\n")) {
            Matcher answered = ANSWERED.matcher(line.trim());
            if (!answered.matches()) {
                code.append(line).append('\n');
                continue;
            }
            String call = answered.group(1);
            code.append("DriftKinReadme.due(\"").append(call).append("\", ").append(call).append(", ")
                .append(answered.group(2)).append(");\n");
        }
        Path place = Files.createTempDirectory("readme");
        Path source = place.resolve("ReadmeLines.java");
        Files.writeString(source, code.append("    }\n}\n"));
        int compiled = ToolProvider.getSystemJavaCompiler().run(null, null, null,
            "-cp", System.getProperty("java.class.path"), "-d", place.toString(), source.toString());
        due("compiling the lines", compiled, 0);
        if (compiled == 0) {
            try (URLClassLoader loader = new URLClassLoader(new URL[] {place.toUri().toURL()})) {
                loader.loadClass("ReadmeLines").getMethod("main", String[].class).invoke(null, (Object) new String[0]);
            }
        }
        try (var made = Files.list(place)) {
            for (Path file : made.toList()) Files.delete(file);
        }
        Files.delete(place);
    }
}
