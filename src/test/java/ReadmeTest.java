import java.io.IOException;
import java.lang.reflect.Field;
import java.lang.reflect.Modifier;
import java.nio.file.Files;
import java.nio.file.Path;
import java.util.ArrayList;
import java.util.List;
import java.util.regex.Matcher;
import java.util.regex.Pattern;
import javax.tools.ToolProvider;

/** What README.md shows of the class is so: its calls are compiled and run, its tables compared. */
public final class ReadmeTest {
    private static final String NAME = "ShownInReadme";
    private static final Pattern BLOCK = Pattern.compile("(?ms)^```java\n(.*?)^```$");
    private static final Pattern CALL = Pattern.compile("( *)(x\\.(\\w+)\\(.*\\)); *(?://(.*))?");
    private static final Pattern ANSWER = Pattern.compile(" (-?\\d+)(:.*)?");
    private static final String[] FINDINGS = {"NOTHING", "BEYOND", "UNLIKE", "NOUGHT", "SIZE"};

    private static int wrong = 0;
    private static int shown = 0;

    public static void main(String[] args) throws IOException, ReflectiveOperationException {
        String page = Files.readString(Path.of("README.md"));
        calls(page);
        constants(page);
        findings(page);
        tests(page);
        says(page, "at most 512 calls");
        says(page, "new HoursByPost()");
        says(page, "`asked()`");
        says(page, "`upper()`, `lower()`");
        says(page, "`.ci/run`");
        says(page, "../shared/tests");
        System.out.println(wrong == 0 ? "README.md shows " + shown + " calls, all so" : wrong + " things are not so");
        if (wrong != 0) {
            System.exit(1);
        }
    }

    private static void complain(String text) {
        wrong++;
        System.out.println("README.md: " + text);
    }

    private static void says(String page, String words) {
        if (!page.contains(words)) {
            complain("does not say: " + words);
        }
    }

    /** Called by the program that is made of the page. */
    public static void due(String call, long got, long want) {
        shown++;
        if (got != want) {
            complain(call + " answered " + got + ", shown is " + want);
        }
    }

    private static void calls(String page) throws IOException, ReflectiveOperationException {
        StringBuilder program = new StringBuilder("public final class " + NAME + " {\n    public static void run() {\n");
        Matcher block = BLOCK.matcher(page);
        while (block.find()) {
            program.append("{\n");
            for (String line : block.group(1).split("\n")) {
                program.append(compared(line)).append('\n');
            }
            program.append("}\n");
        }
        program.append("    }\n}\n");
        Path made = Files.createTempDirectory("readme");
        try {
            runProgram(made, program.toString());
        } finally {
            for (String file : new String[] {NAME + ".java", NAME + ".class"}) {
                Files.deleteIfExists(made.resolve(file));
            }
            Files.deleteIfExists(made);
        }
        if (shown == 0) {
            complain("shows no calls");
        }
    }

    /** A call of the page, compared with the answer behind it; other lines as they are. */
    private static String compared(String line) {
        Matcher call = CALL.matcher(line);
        if (!call.matches()) {
            return line;
        }
        Matcher answer = ANSWER.matcher(call.group(4) == null ? "" : call.group(4));
        if (!answer.matches()) {
            complain("shows no answer: " + line.trim());
            return line;
        }
        return "ReadmeTest.due(\"" + call.group(2) + "\", " + call.group(2) + ", " + answer.group(1) + "L);";
    }

    private static void runProgram(Path made, String program) throws IOException, ReflectiveOperationException {
        Path source = Files.writeString(made.resolve(NAME + ".java"), program);
        String path = System.getProperty("java.class.path");
        int code = ToolProvider.getSystemJavaCompiler()
            .run(null, null, null, "-cp", path, "-d", made.toString(), source.toString());
        if (code != 0) {
            complain("its calls can't be compiled");
            return;
        }
        try (java.net.URLClassLoader loader = new java.net.URLClassLoader(new java.net.URL[] {made.toUri().toURL()})) {
            loader.loadClass(NAME).getMethod("run").invoke(null);
        }
    }

    /** The rows of a table: the first two cells of each. */
    private static List<String> table(String page, String head) {
        List<String> rows = new ArrayList<>();
        boolean isIn = false;
        for (String line : page.split("\n")) {
            isIn = line.startsWith(head) || isIn && line.startsWith("|");
            if (isIn && !line.startsWith(head) && !line.startsWith("| ---")) {
                String[] cells = line.split("\\|");
                rows.add(cells[1].trim().replace("`", "") + " " + cells[2].trim());
            }
        }
        return rows;
    }

    private static void constants(String page) throws IllegalAccessException {
        List<String> due = new ArrayList<>();
        for (Field field : HoursByPost.class.getDeclaredFields()) {
            if (Modifier.isPublic(field.getModifiers())) {
                due.add(field.getName() + " " + field.getInt(null));
            }
        }
        if (!table(page, "| Name | Answer |").equals(due)) {
            complain("the constants are " + due);
        }
    }

    private static void findings(String page) {
        List<String> due = new ArrayList<>();
        for (int f = 1; f <= FINDINGS.length; f++) {
            due.add(f + " " + FINDINGS[f - 1]);
        }
        if (!table(page, "| FINDING |").equals(due)) {
            complain("the FINDINGS are " + due);
        }
    }

    /** Each test of the project is named. */
    private static void tests(String page) throws IOException {
        try (var files = Files.list(Path.of("src/test/java"))) {
            files.map(f -> f.getFileName().toString().replace(".java", "")).filter(f -> f.endsWith("Test"))
                .forEach(name -> says(page, "`" + name + "`"));
        }
    }
}
