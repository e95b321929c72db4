import java.lang.reflect.Constructor;
import java.lang.reflect.Field;
import java.lang.reflect.Method;
import java.lang.reflect.Modifier;
import java.nio.file.Files;
import java.nio.file.Path;
import java.util.ArrayList;
import java.util.List;
import java.util.Set;
import java.util.TreeSet;
import java.util.regex.Matcher;
import java.util.regex.Pattern;

/** The rules of LANGUAGE.md that can be seen from the class's face and text. */
public final class LanguageTest {
    private static int wrong = 0;

    private static final Set<String> FACE = Set.of(
        "int curve(int,int,int,int,int)", "int change(int,int,int,int)", "int scale(int,int,boolean)",
        "int least(int)", "int twist(int,int)", "int drop()", "long of(int,int)", "int at(int,int,int)",
        "int prime(int,int)", "long conductor(int)", "long leastOf(int,int)", "boolean one(int,int)",
        "int points(int,int)", "int trace(int,int)", "long own(int)", "int best(int)", "long twisted(int,int)",
        "int small(int)", "int point(int,int,int)", "int minus(int,int)", "int count(int)");

    private static final String[] FORBIDDEN = {
        "\\bcatch\\b", "\\bfinally\\b", "->", "::", "\\bsynchronized\\b", "\\bassert\\b", "Exact\\b",
        "\\bdouble\\b", "\\bfloat\\b", "\\bSystem\\.(?!arraycopy)", "\\bRandom\\b", "\\bpackage\\b", "\\bprotected\\b",
        "\\bgetMessage\\b", "\\bwhile \\(true\\)", "for \\(;;", "[^\\x00-\\x7f]"};

    public static void main(String[] args) throws Exception {
        checkFace();
        checkNested();
        checkText();
        System.out.println(wrong + " rules broken");
        if (wrong != 0) {
            System.exit(1);
        }
    }

    private static void broken(String what) {
        wrong++;
        System.out.println(what);
    }

    private static void checkFace() {
        Class<?> face = CurveFalls.class;
        int modifiers = face.getModifiers();
        if (!Modifier.isPublic(modifiers) || !Modifier.isFinal(modifiers)) {
            broken("the class is not public and final");
        }
        Set<String> found = new TreeSet<>();
        for (Method method : face.getDeclaredMethods()) {
            if (!Modifier.isPrivate(method.getModifiers())) {
                found.add(signature(method));
            }
        }
        if (!found.equals(new TreeSet<>(FACE))) {
            broken("the face is " + found);
        }
        for (Constructor<?> constructor : face.getDeclaredConstructors()) {
            if (constructor.getParameterCount() != 0 || !Modifier.isPublic(constructor.getModifiers())) {
                broken("constructor " + constructor);
            }
        }
        for (Field field : face.getDeclaredFields()) {
            boolean none = field.getName().equals("NONE") && Modifier.isPublic(field.getModifiers());
            if (!none && !Modifier.isPrivate(field.getModifiers())) {
                broken("field " + field);
            }
        }
    }

    private static String signature(Method method) {
        List<String> types = new ArrayList<>();
        for (Class<?> type : method.getParameterTypes()) {
            types.add(type.getName());
        }
        return method.getReturnType().getName() + " " + method.getName() + "(" + String.join(",", types) + ")";
    }

    private static void checkNested() {
        Set<String> names = new TreeSet<>();
        for (String signature : FACE) {
            names.add(signature.substring(signature.indexOf(' ') + 1, signature.indexOf('(')));
        }
        List<Class<?>> all = new ArrayList<>(List.of(CurveFalls.class.getDeclaredClasses()));
        if (all.size() > 12) {
            broken("too many classes: " + all.size());
        }
        for (Class<?> nested : all) {
            if (!Modifier.isStatic(nested.getModifiers()) || Modifier.isPublic(nested.getModifiers())) {
                broken("nested class " + nested);
            }
            for (Method method : nested.getDeclaredMethods()) {
                if (names.contains(method.getName()) || method.getParameterCount() > 7) {
                    broken("nested method " + method);
                }
            }
        }
        all.add(CurveFalls.class);
        for (Class<?> one : all) {
            int fields = 0;
            for (Field field : one.getDeclaredFields()) {
                boolean isStatic = Modifier.isStatic(field.getModifiers());
                fields += isStatic ? 0 : 1;
                if (isStatic && !Modifier.isFinal(field.getModifiers())) {
                    broken("static field " + field);
                }
            }
            if (fields > 20) {
                broken("too many fields in " + one);
            }
        }
    }

    private static void checkText() throws Exception {
        String text = Files.readString(Path.of("src/main/java/CurveFalls.java"));
        String code = text.replaceAll("(?s)/\\*.*?\\*/", "").replaceAll("//[^\n]*", "");
        for (String pattern : FORBIDDEN) {
            Matcher matcher = Pattern.compile(pattern).matcher(code);
            if (matcher.find()) {
                broken("forbidden: " + matcher.group());
            }
        }
        Matcher imports = Pattern.compile("import ([^;]+);").matcher(code);
        while (imports.find()) {
            if (!imports.group(1).equals("java.util.NoSuchElementException")) {
                broken("import " + imports.group(1));
            }
        }
        Matcher thrown = Pattern.compile("throw ([^;]+);").matcher(code);
        while (thrown.find()) {
            if (!thrown.group(1).equals("new NoSuchElementException()")) {
                broken("throw " + thrown.group(1));
            }
        }
        checkLengths(code);
    }

    /** A method begins with a line that ends in ") {" at a class's depth and ends at its own brace. */
    private static void checkLengths(String code) {
        int begun = -1;
        String indent = "";
        String[] lines = code.split("\n", -1);
        for (int i = 0; i < lines.length; i++) {
            Matcher head = Pattern.compile("^( {4}| {8})[a-z][^=]*\\(.*\\).*\\{$").matcher(lines[i]);
            if (begun < 0 && head.find()) {
                begun = i;
                indent = head.group(1);
            } else if (begun >= 0 && lines[i].equals(indent + "}")) {
                if (i - begun > 60) {
                    broken("a long method at line " + (begun + 1));
                }
                begun = -1;
            }
        }
    }
}
