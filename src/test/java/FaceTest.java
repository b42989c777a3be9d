import java.io.IOException;
import java.lang.reflect.Constructor;
import java.lang.reflect.Field;
import java.lang.reflect.Method;
import java.lang.reflect.Modifier;
import java.nio.file.Files;
import java.nio.file.Path;
import java.util.ArrayList;
import java.util.Collections;
import java.util.HashSet;
import java.util.List;
import java.util.Set;
import java.util.regex.Matcher;
import java.util.regex.Pattern;

/** The class has the face that the document shows, and no member more that others could see. */
public final class FaceTest {
    private static final Class<?> TYPE = HoursByPost.class;
    private static final Pattern FACE = Pattern.compile("(?s)public final class HoursByPost \\{\n(.*?)\n\\}");
    private static final Pattern METHOD = Pattern.compile("public (int|long) (\\w+)\\((.*)\\);");
    private static final Pattern CONSTANTS = Pattern.compile("public static final int (.*);");
    private static final int MOST_FIELDS = 20;

    private static int wrong = 0;

    public static void main(String[] args) throws IOException, IllegalAccessException {
        Matcher face = FACE.matcher(Files.readString(Path.of("../shared/DOC.md")));
        if (!face.find()) {
            complain("the document shows no face");
        } else {
            List<String> due = shownBy(face.group(1));
            List<String> has = members();
            Collections.sort(due);
            Collections.sort(has);
            if (!due.equals(has)) {
                complain("it has " + has + ", due is " + due);
            }
        }
        itself();
        names();
        inside();
        System.out.println(wrong == 0 ? "the face is the document's" : wrong + " things are not so");
        if (wrong != 0) {
            System.exit(1);
        }
    }

    private static void complain(String text) {
        wrong++;
        System.out.println("HoursByPost: " + text);
    }

    private static List<String> shownBy(String face) {
        List<String> due = new ArrayList<>();
        for (String line : face.split("\n")) {
            Matcher method = METHOD.matcher(line.trim());
            Matcher constants = CONSTANTS.matcher(line.trim());
            if (method.matches()) {
                String types = method.group(3).replaceAll("(int|long) \\w+", "$1");
                due.add(method.group(1) + " " + method.group(2) + "(" + types + ")");
            } else if (constants.matches()) {
                due.addAll(List.of(constants.group(1).split(", ")));
            } else if (line.trim().equals("public HoursByPost();")) {
                due.add("HoursByPost()");
            } else {
                complain("the document shows " + line);
            }
        }
        return due;
    }

    private static String types(Class<?>[] types) {
        List<String> names = new ArrayList<>();
        for (Class<?> type : types) {
            names.add(type.getName());
        }
        return "(" + String.join(", ", names) + ")";
    }

    /** All members that are not private. */
    private static List<String> members() throws IllegalAccessException {
        List<String> has = new ArrayList<>();
        for (Field field : TYPE.getDeclaredFields()) {
            if (!Modifier.isPrivate(field.getModifiers())) {
                boolean isConstant = Modifier.isStatic(field.getModifiers()) && Modifier.isFinal(field.getModifiers())
                    && Modifier.isPublic(field.getModifiers()) && field.getType() == int.class;
                has.add(isConstant ? field.getName() + " = " + field.getInt(null) : "not as due: " + field);
            }
        }
        for (Constructor<?> made : TYPE.getDeclaredConstructors()) {
            boolean isPublic = Modifier.isPublic(made.getModifiers());
            has.add(isPublic ? made.getName() + types(made.getParameterTypes()) : "not as due: " + made);
        }
        for (Method method : TYPE.getDeclaredMethods()) {
            if (!Modifier.isPrivate(method.getModifiers())) {
                boolean isOpen = method.getModifiers() == Modifier.PUBLIC;
                String form = method.getName() + types(method.getParameterTypes());
                has.add(isOpen ? method.getReturnType().getName() + " " + form : "not as due: " + method);
            }
        }
        return has;
    }

    private static void itself() {
        if (TYPE.getModifiers() != (Modifier.PUBLIC | Modifier.FINAL) || TYPE.getPackageName().length() != 0) {
            complain("it is not public and final, without a package");
        }
        if (TYPE.getSuperclass() != Object.class || TYPE.getInterfaces().length != 0) {
            complain("it is more than the class of the document");
        }
    }

    /** No private method bears the name of a public one. */
    private static void names() {
        Set<String> open = new HashSet<>();
        for (Method method : TYPE.getDeclaredMethods()) {
            if (Modifier.isPublic(method.getModifiers())) {
                open.add(method.getName());
            }
        }
        for (Method method : TYPE.getDeclaredMethods()) {
            if (!Modifier.isPublic(method.getModifiers()) && open.contains(method.getName())) {
                complain("rule 1: " + method);
            }
        }
    }

    /** The classes inside are static, and none has too many fields; static fields are final. */
    private static void inside() {
        List<Class<?>> all = new ArrayList<>(List.of(TYPE.getDeclaredClasses()));
        for (Class<?> type : all) {
            if (!Modifier.isStatic(type.getModifiers()) || Modifier.isPublic(type.getModifiers())) {
                complain("rule 1 or 2: " + type);
            }
        }
        all.add(TYPE);
        for (Class<?> type : all) {
            int fields = 0;
            for (Field field : type.getDeclaredFields()) {
                boolean isStatic = Modifier.isStatic(field.getModifiers());
                fields += isStatic ? 0 : 1;
                if (isStatic && !Modifier.isFinal(field.getModifiers())) {
                    complain("rule 5: " + field);
                }
            }
            if (fields > MOST_FIELDS) {
                complain("rule 11: " + type + " has " + fields + " fields");
            }
        }
    }
}
