import java.io.IOException;
import java.lang.reflect.Constructor;
import java.lang.reflect.Field;
import java.lang.reflect.Method;
import java.lang.reflect.Modifier;
import java.nio.file.Files;
import java.nio.file.Path;
import java.util.ArrayList;
import java.util.List;
import java.util.TreeSet;
import java.util.regex.Matcher;
import java.util.regex.Pattern;

/** The face is the document's and nothing more; the source keeps to what LANGUAGE.md leaves. */
public final class FaceTests {
    private static final Path DOCUMENT = Path.of("../shared/DOC.md");
    private static final Path SOURCE = Path.of("src/main/java/PrintedByFrost.java");
    private static int wrong = 0;

    private static void fail(String what) {
        wrong++;
        System.out.println(what);
    }

    public static void main(String[] args) throws IOException {
        face();
        classesInside();
        names();
        source();
        System.out.println(wrong == 0 ? "the face is the document's" : wrong + " faults");
        if (wrong != 0) {
            System.exit(1);
        }
    }

    private static void face() throws IOException {
        TreeSet<String> wanted = new TreeSet<>();
        Matcher lines = Pattern.compile("(?m)^ {4}public (.*);$").matcher(Files.readString(DOCUMENT));
        while (lines.find()) {
            wanted.add(lines.group(1).replaceAll(" \\w+([,)])", "$1"));
        }
        TreeSet<String> found = new TreeSet<>();
        for (Method method : PrintedByFrost.class.getDeclaredMethods()) {
            if (!Modifier.isPrivate(method.getModifiers())) {
                found.add(method.getReturnType() + " " + method.getName() + types(method.getParameterTypes()));
            }
        }
        for (Constructor<?> one : PrintedByFrost.class.getDeclaredConstructors()) {
            found.add("PrintedByFrost" + types(one.getParameterTypes()));
        }
        for (Field field : PrintedByFrost.class.getDeclaredFields()) {
            if (!Modifier.isPrivate(field.getModifiers())) {
                found.add(Modifier.toString(field.getModifiers()).replace("public ", "") + " "
                        + field.getType() + " " + field.getName() + " = " + PrintedByFrost.NONE);
            }
        }
        if (wanted.size() != 50 || !wanted.equals(found)) {
            fail("the document's face: " + wanted + "\nthe program's: " + found);
        }
        if (!Modifier.toString(PrintedByFrost.class.getModifiers()).equals("public final")) {
            fail("the class isn't public and final");
        }
    }

    private static String types(Class<?>[] types) {
        List<String> names = new ArrayList<>();
        for (Class<?> type : types) {
            names.add(type.getName());
        }
        return "(" + String.join(", ", names) + ")";
    }

    private static void classesInside() {
        Class<?>[] inside = PrintedByFrost.class.getDeclaredClasses();
        if (inside.length > 11) {
            fail("more than 12 classes");
        }
        for (Class<?> one : inside) {
            int fields = 0;
            for (Field field : one.getDeclaredFields()) {
                boolean constant = Modifier.isStatic(field.getModifiers());
                fields += constant ? 0 : 1;
                if (constant && !Modifier.isFinal(field.getModifiers())) {
                    fail("a static field that isn't final: " + field);
                }
            }
            if (fields > 20) {
                fail("more than 20 fields: " + one);
            }
            if (!Modifier.isStatic(one.getModifiers()) || Modifier.isPublic(one.getModifiers())) {
                fail("not a static class of its own: " + one);
            }
        }
    }

    /** No method inside bears a name of the face, and none takes more than seven parameters. */
    private static void names() {
        TreeSet<String> face = new TreeSet<>();
        List<Method> hidden = new ArrayList<>();
        for (Method method : PrintedByFrost.class.getDeclaredMethods()) {
            if (Modifier.isPublic(method.getModifiers())) {
                face.add(method.getName());
            } else {
                hidden.add(method);
            }
        }
        for (Class<?> one : PrintedByFrost.class.getDeclaredClasses()) {
            hidden.addAll(List.of(one.getDeclaredMethods()));
        }
        for (Method method : hidden) {
            if (face.contains(method.getName())) {
                fail("a name of the face: " + method);
            }
            if (method.getParameterCount() > 7) {
                fail("more than seven parameters: " + method);
            }
        }
    }

    private static void source() throws IOException {
        String text = Files.readString(SOURCE).replaceAll("(?s)/\\*.*?\\*/", "").replaceAll("//.*", "");
        String[] ruledOut = {"\\bimport\\b", "\\bpackage\\b", "\\bcatch\\b", "\\bfinally\\b", "\\bthrow\\b",
            "\\bthrows\\b", "\\bassert\\b", "\\bsynchronized\\b", "->", "::", "\\bSystem\\.(?!arraycopy)",
            "Exact\\b", "\\bstatic\\s*\\{", "\\bdouble\\b", "\\bfloat\\b", "\\bvar\\b", "\\bObject\\b"};
        for (String rule : ruledOut) {
            if (Pattern.compile(rule).matcher(text).find()) {
                fail("the source has " + rule);
            }
        }
        if (!text.chars().allMatch(sign -> sign < 128)) {
            fail("the source has a sign above 127");
        }
    }
}
