import java.io.IOException;
import java.lang.reflect.Constructor;
import java.lang.reflect.Field;
import java.lang.reflect.Method;
import java.lang.reflect.Modifier;
import java.nio.file.Files;
import java.nio.file.Path;
import java.util.Arrays;
import java.util.HashSet;
import java.util.List;
import java.util.Set;
import java.util.TreeSet;
import java.util.regex.Pattern;

/** The face of the document, and those rules of LANGUAGE.md that can be read off the class and its text. */
public final class FaceTest {
    private static final String I = "IndexOutOfBoundsException";
    private static final String A = "IllegalArgumentException";
    private static final String S = "IllegalStateException";
    private static final List<String> FACE = List.of(
            method("int join(int)", A, S), method("int remark(int,int)", I, A, S), method("int excuse(int)", I),
            method("int bring(int,int,int)", I, A, S), method("int takeBack(int)", I), method("int setS(int)", A),
            method("int bake(int)", A, S), method("int claim(int)", I), method("int returnLoaves(int)", I),
            method("int giveAway()"), method("int household(int,int)", I, A), method("long due(int)", I),
            method("int nextForWood()"), method("int balance(int,int)", I, A), method("int batch(int,int)", A),
            method("int loaf(int,int)", I, A), method("int load(int,int)", A), method("int whole(int)", A),
            method("int doughWith(int)", A), method("int bestWood()"), method("int likeMarks()"),
            method("int freeMark(int)", A), method("int type(int)", A, S), method("int clearCommands()"),
            method("int runCommands()"), method("int stop()"), method("int undo()", S), method("long digest()"));
    private static final List<String> FORBIDDEN = List.of("\\bimport\\b", "\\bpackage\\b", "->", "::", "\\bfinally\\b",
            "\\bsynchronized\\b", "\\bassert\\b", "\\bcatch\\b", "\\bvar\\b", "\\bObject\\b", "\\bMap\\b", "\\bSystem\\.(?!arraycopy)",
            "Exact\\b", "\\bThread\\b", "\\bprotected\\b", "\" *\\+", "\\+ *\"", "\\bequals\\(Object", "\\bwhile \\(true\\)");
    private static final int MAX_METHOD_LINES = 60;

    private static final Check check = new Check();

    public static void main(String[] args) throws IOException {
        face();
        shape();
        text();
        check.end();
    }

    private static String method(String signature, String... thrown) {
        return signature + " " + new TreeSet<>(Arrays.asList(thrown));
    }

    private static String describe(Method method) {
        StringBuilder parameters = new StringBuilder();
        for (Class<?> type : method.getParameterTypes()) {
            parameters.append(parameters.length() == 0 ? "" : ",").append(type.getSimpleName());
        }
        String[] thrown = Arrays.stream(method.getExceptionTypes()).map(Class::getSimpleName).toArray(String[]::new);
        return method(method.getReturnType().getSimpleName() + " " + method.getName() + "(" + parameters + ")", thrown);
    }

    private static void face() {
        int flags = OvenDays.class.getModifiers();
        check.isTrue("the class is public and final", Modifier.isPublic(flags) && Modifier.isFinal(flags));
        Set<String> missing = new TreeSet<>(FACE);
        Set<String> names = new HashSet<>();
        for (Method method : OvenDays.class.getDeclaredMethods()) {
            if (Modifier.isPublic(method.getModifiers())) {
                names.add(method.getName());
                check.isTrue(describe(method) + " is in the face", missing.remove(describe(method)));
                check.isTrue(method + " is of the object", !Modifier.isStatic(method.getModifiers()));
            }
        }
        check.isTrue("missing: " + missing, missing.isEmpty());
        for (Method method : OvenDays.class.getDeclaredMethods()) {
            if (!Modifier.isPublic(method.getModifiers())) {
                check.isTrue(method + " is private", Modifier.isPrivate(method.getModifiers()));
                check.isTrue(method + " has a name of its own", !names.contains(method.getName()));
            }
        }
        for (Class<?> inner : OvenDays.class.getDeclaredClasses()) {
            for (Method method : inner.getDeclaredMethods()) {
                check.isTrue(method + " has a name of its own", !names.contains(method.getName()));
            }
        }
        for (Field field : OvenDays.class.getDeclaredFields()) {
            boolean isConstant = Set.of("NONE", "SHELF").contains(field.getName());
            check.isTrue(field + " is as visible as it may be",
                    isConstant ? Modifier.isPublic(field.getModifiers()) : Modifier.isPrivate(field.getModifiers()));
        }
        Constructor<?>[] constructors = OvenDays.class.getDeclaredConstructors();
        check.isTrue("one public constructor without parameters", constructors.length == 1
                && Modifier.isPublic(constructors[0].getModifiers()) && constructors[0].getParameterCount() == 0);
    }

    private static void shape() {
        Class<?>[] inner = OvenDays.class.getDeclaredClasses();
        check.isTrue("at most twelve classes", inner.length + 1 <= 12);
        for (Class<?> one : inner) {
            check.isTrue(one + " is static and not public", Modifier.isStatic(one.getModifiers())
                    && !Modifier.isPublic(one.getModifiers()));
            shapeOf(one);
        }
        shapeOf(OvenDays.class);
    }

    private static void shapeOf(Class<?> one) {
        int fields = 0;
        for (Field field : one.getDeclaredFields()) {
            boolean isFinal = Modifier.isFinal(field.getModifiers());
            if (Modifier.isStatic(field.getModifiers())) {
                check.isTrue(field + " is a constant", isFinal);
            } else {
                fields++;
            }
        }
        check.isTrue(one + " has few fields", fields <= 20);
        for (Method method : one.getDeclaredMethods()) {
            check.isTrue(method + " has few parameters", method.getParameterCount() <= 7);
        }
    }

    private static void text() throws IOException {
        List<String> lines = Files.readAllLines(Path.of("src/main/java/OvenDays.java"));
        int start = -1;
        for (int index = 0; index < lines.size(); index++) {
            String line = lines.get(index);
            String code = line.replaceFirst("^ *(//|/\\*\\*| \\*).*", "");
            for (String forbidden : FORBIDDEN) {
                check.isTrue("line " + (index + 1) + " has " + forbidden, !Pattern.compile(forbidden).matcher(code).find());
            }
            for (int sign = 0; sign < line.length(); sign++) {
                check.isTrue("line " + (index + 1) + " is plain", line.charAt(sign) < 128);
            }
            if (line.matches("( {4}| {8})(?! )[^/*}].*[({,]")) {
                start = index;
            }
            if (line.matches("( {4}| {8})}") && start >= 0) {
                check.isTrue("the method that ends at " + (index + 1) + " is short", index - start < MAX_METHOD_LINES
                        || !lines.get(start).contains("("));
            }
        }
    }
}
