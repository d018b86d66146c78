import java.io.IOException;
import java.lang.reflect.Field;
import java.lang.reflect.Method;
import java.lang.reflect.Modifier;
import java.nio.file.Files;
import java.nio.file.Path;
import java.util.Set;
import java.util.TreeSet;
import java.util.regex.Matcher;
import java.util.regex.Pattern;

/** The public face is the document's and no more, and the source keeps to those rules of LANGUAGE.md that a test can see. */
public final class FaceTest {
    private static final String[] FACE = {
        "int say(int)", "int wipe()", "int fault()", "int deed(int,int,int)", "int miss(int)", "int loose(int)",
        "int drop(int)", "int year(int,int)", "int about(int,int)", "int corner(int,int,int)", "int lies(int,int,int)",
        "int sign(int,int)", "long west(int,int,int)", "int line(int,int)", "int common(int,int,int)",
        "int right(int,int)", "int gap(int)", "int count(int)", "int image(int)", "int restore(int)"};
    private static final String[] CONSTANTS = {
        "UNKNOWN", "OUTSIDE", "STATE", "FULL", "NO", "NONE", "FAULT", "AWRY"};
    private static final String[] RULED_OUT = {
        "\\bthrow\\b", "\\btry\\b", "\\bcatch\\b", "\\bsynchronized\\b", "\\bassert\\b", "\\bimport\\b", "\\bpackage\\b",
        "->", "::", "\\w+Exact\\b", "\\bSystem\\.(?!arraycopy)", "\\bString\\.format\\b", "static\\s*\\{"};

    private static int wrong = 0;

    private static void check(String what, boolean holds) {
        if (!holds) {
            wrong++;
            System.out.println(what);
        }
    }

    public static void main(String[] args) throws IOException, IllegalAccessException {
        constants();
        methods();
        classesInside();
        source();
        System.out.println(wrong == 0 ? "the face is as told" : wrong + " faults of the face");
        if (wrong != 0) {
            System.exit(1);
        }
    }

    private static void constants() throws IllegalAccessException {
        Set<String> left = new TreeSet<>(Set.of(CONSTANTS));
        for (Field field : LandDeeds.class.getDeclaredFields()) {
            if (Modifier.isPrivate(field.getModifiers())) {
                continue;
            }
            check(field + " is not of the face", left.remove(field.getName()));
            check(field + " is no constant", field.toString().startsWith("public static final int "));
            check(field + " is wrong", field.getInt(null) == -1 - java.util.Arrays.asList(CONSTANTS).indexOf(field.getName()));
        }
        check("missing: " + left, left.isEmpty());
    }

    private static String told(Method method) {
        StringBuilder told = new StringBuilder(method.getReturnType() + " " + method.getName() + "(");
        for (Class<?> type : method.getParameterTypes()) {
            told.append(told.charAt(told.length() - 1) == '(' ? "" : ",").append(type);
        }
        return told.append(')').toString();
    }

    private static void methods() {
        Set<String> left = new TreeSet<>(Set.of(FACE));
        for (Method method : LandDeeds.class.getDeclaredMethods()) {
            boolean inside = Modifier.isPrivate(method.getModifiers()) || method.isSynthetic();
            check(method + " is not of the face", inside || left.remove(told(method)));
            check(method + " is static or not public", inside || method.getModifiers() == Modifier.PUBLIC);
            check(method + " bears a public name", !inside || !isPublicName(method.getName()));
        }
        check("missing: " + left, left.isEmpty());
        check("the class is public and final", LandDeeds.class.getModifiers() == (Modifier.PUBLIC | Modifier.FINAL));
        check("one public constructor", LandDeeds.class.getDeclaredConstructors().length == 1
            && LandDeeds.class.getConstructors().length == 1);
    }

    private static boolean isPublicName(String name) {
        for (String told : FACE) {
            if (told.contains(" " + name + "(")) {
                return true;
            }
        }
        return false;
    }

    private static void classesInside() {
        Class<?>[] inside = LandDeeds.class.getDeclaredClasses();
        check("too many classes", inside.length < 12);
        for (Class<?> one : inside) {
            check(one + " is not static", Modifier.isStatic(one.getModifiers()));
            check(one + " is visible", !Modifier.isPublic(one.getModifiers()) && !Modifier.isProtected(one.getModifiers()));
            check(one + " has too many fields", one.getDeclaredFields().length <= 20);
            for (Method method : one.getDeclaredMethods()) {
                check(method + " bears a public name", !isPublicName(method.getName()));
                check(method + " takes too much", method.getParameterCount() <= 7);
            }
            for (Field field : one.getDeclaredFields()) {
                check(field + " is static state", !Modifier.isStatic(field.getModifiers()) || Modifier.isFinal(field.getModifiers()));
            }
        }
    }

    private static void source() throws IOException {
        String source = Files.readString(Path.of("src/main/java/LandDeeds.java"));
        String code = source.replaceAll("(?s)/\\*.*?\\*/", "").replaceAll("//[^\n]*", "");
        for (String ruledOut : RULED_OUT) {
            Matcher found = Pattern.compile(ruledOut).matcher(code);
            check("the source has " + ruledOut, !found.find());
        }
        for (int i = 0; i < source.length(); i++) {
            check("a sign beyond 127 at " + i, source.charAt(i) < 128);
        }
    }
}
