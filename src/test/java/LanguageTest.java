import java.io.IOException;
import java.nio.file.Files;
import java.nio.file.Path;
import java.util.ArrayList;
import java.util.List;
import java.util.regex.Matcher;
import java.util.regex.Pattern;

/** The rules of LANGUAGE.md that can be looked up in the file itself. */
public final class LanguageTest {
    private static final Path FILE = Path.of("src/main/java/HoursByPost.java");
    private static final String FACE = """
        row lay at tear copy mean text put fault house deed hour mark route day open send undo shelf keep on \
        can why opens late run most fewest order shut waits diary forged stolen odds lots asked upper lower \
        count finding findings digest""";
    private static final Pattern METHOD =
        Pattern.compile("^( +)((?:public |private |static |final )*)(int|long|boolean|void) (\\w+)\\(([^)]*)\\) \\{$");
    private static final int LONGEST_METHOD = 60;
    private static final int MOST_PARAMETERS = 7, MOST_CLASSES = 12;

    private static int wrong = 0;

    public static void main(String[] args) throws IOException {
        String source = Files.readString(FILE);
        String code = source.replaceAll("(?s)/\\*.*?\\*/", "").replaceAll("//[^\n]*", "");
        words(code);
        library(code);
        classes(code);
        methods(List.of(source.split("\n")));
        signs(source);
        System.out.println(wrong == 0 ? "the file keeps to the rules" : wrong + " places are outside the rules");
        if (wrong != 0) {
            System.exit(1);
        }
    }

    private static void complain(String text) {
        wrong++;
        System.out.println(text);
    }

    private static void words(String code) {
        String[] barred = {"throw", "throws", "try", "catch", "synchronized", "assert", "package", "protected",
            "hashCode", "toString", "Object", "float", "double", "var", "native", "volatile"};
        for (String word : barred) {
            if (Pattern.compile("\\b" + word + "\\b").matcher(code).find()) {
                complain("rule 6 or 3: " + word);
            }
        }
        if (code.contains("->") || code.contains("::")) {
            complain("rule 2: a lambda or a method reference");
        }
        if (Pattern.compile("static \\{").matcher(code).find()) {
            complain("rule 5: a static block");
        }
    }

    private static void library(String code) {
        Matcher m = Pattern.compile("\\b(Arrays|Integer|Long|Math|System)\\.(\\w+)").matcher(code);
        while (m.find()) {
            if (!m.group(2).matches("fill|arraycopy|bitCount|max|min")) {
                complain("rule 4: " + m.group());
            }
        }
        Matcher imports = Pattern.compile("(?m)^import (.*);").matcher(code);
        while (imports.find()) {
            if (!imports.group(1).equals("java.util.Arrays")) {
                complain("rule 4: import " + imports.group(1));
            }
        }
    }

    private static void classes(String code) {
        Matcher m = Pattern.compile("(?m)^ *(.*)\\bclass (\\w+)").matcher(code);
        int many = 0;
        while (m.find()) {
            many++;
            boolean isOuter = m.group(2).equals("HoursByPost") && m.group(1).equals("public final ");
            if (!isOuter && !m.group(1).equals("private static final ")) {
                complain("rule 1 or 2: class " + m.group(2));
            }
        }
        if (many > MOST_CLASSES) {
            complain("rule 11: " + many + " classes");
        }
    }

    private static void methods(List<String> lines) {
        List<String> face = List.of(FACE.split(" +"));
        List<String> open = new ArrayList<>();
        for (int k = 0; k < lines.size(); k++) {
            Matcher m = METHOD.matcher(lines.get(k));
            if (!m.matches()) {
                continue;
            }
            String name = m.group(4);
            boolean isPublic = m.group(2).contains("public");
            if (isPublic) {
                open.add(name);
            }
            boolean isOfTheClass = m.group(1).length() == 4;
            boolean isKeptIn = isPublic || !isOfTheClass || m.group(2).contains("private");
            if (isPublic != face.contains(name) || !isKeptIn) {
                complain("rule 1: " + lines.get(k).trim());
            }
            if (m.group(5).split(",").length > MOST_PARAMETERS) {
                complain("rule 11: parameters of " + name);
            }
            int end = k;
            while (end < lines.size() && !lines.get(end).equals(m.group(1) + "}")) {
                end++;
            }
            if (end - k + 1 > LONGEST_METHOD) {
                complain("rule 11: " + name + " has " + (end - k + 1) + " lines");
            }
        }
        if (!open.equals(face)) {
            complain("rule 1: the face is " + open);
        }
    }

    private static void signs(String source) {
        for (int k = 0; k < source.length(); k++) {
            if (source.charAt(k) > 126) {
                complain("rule 4: a sign above 126 at " + k);
            }
        }
    }
}
