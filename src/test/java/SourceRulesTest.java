import java.io.IOException;
import java.lang.reflect.Constructor;
import java.lang.reflect.Field;
import java.lang.reflect.Method;
import java.lang.reflect.Modifier;
import java.nio.file.Files;
import java.nio.file.Path;
import java.util.ArrayList;
import java.util.Arrays;
import java.util.List;
import java.util.Set;
import java.util.TreeSet;
import java.util.regex.Matcher;
import java.util.regex.Pattern;

/** The rules of LANGUAGE.md that can be seen from the outside: the face, the words that are used, the sizes. */
public final class SourceRulesTest {
    private static final Path SOURCE = Path.of("src", "main", "java", "NoEcho.java");
    private static final String[] FACE = {
        "int feed(int,int,int,int,int)", "int thing(int,int)", "int lengths(int)", "boolean colour(int,int)",
        "int law(int,int)", "int may(int,int,int,int)", "int ways(int,int,int)", "int say(int,int,int)",
        "int said(int,int)", "int paid(int)", "int judged(int,int)", "int held(int,int,int)", "int coded(int,int,int)",
        "long heard(int,int)", "int anyTalk(int,int,int)", "int silenced(int,int,int,int,int,int)",
        "int waited(int,int)", "int round(int,int)", "boolean seed(int)", "int draw(int)", "int keep()",
        "boolean undo()", "int check(int)", "int count(int)"};
    private static final String[] FORBIDDEN = {
        "\\bimport\\b", "\\bpackage\\b", "\\bthrow\\b", "\\bthrows\\b", "\\btry\\b", "\\bcatch\\b", "\\bfinally\\b",
        "\\bsynchronized\\b", "\\bassert\\b", "\\bprotected\\b", "\\bvar\\b", "->", "::", "@", "\\bObject\\b",
        "\\bThread\\b", "\\bhashCode\\b", "\\btoString\\b", "Exact\\b", "\\bdouble\\b", "\\bfloat\\b",
        "\\bwhile\\b", "\" *\\+", "\\+ *\"", "\\bstatic *\\{", "\\bnative\\b", "\\bvolatile\\b", "\\btransient\\b"};
    private static Tester test;

    public static void main(String[] args) throws IOException {
        test = new Tester("SourceRulesTest");
        String source = Files.readString(SOURCE);
        face();
        members();
        words(withoutComments(source));
        methodSizes(source);
        test.end();
    }

    private static String signature(Method method) {
        List<String> types = new ArrayList<>();
        for (Class<?> type : method.getParameterTypes()) {
            types.add(type.getSimpleName());
        }
        return method.getReturnType().getSimpleName() + " " + method.getName() + "(" + String.join(",", types) + ")";
    }

    private static void face() {
        Set<String> got = new TreeSet<>();
        for (Method method : NoEcho.class.getDeclaredMethods()) {
            if (!Modifier.isPrivate(method.getModifiers())) {
                got.add(signature(method));
                test.due("rule 1, public: " + signature(method), Modifier.isPublic(method.getModifiers()), true);
            }
        }
        test.due("rule 1, the face " + got, got.equals(new TreeSet<>(Arrays.asList(FACE))), true);
        Constructor<?>[] constructors = NoEcho.class.getDeclaredConstructors();
        test.due("rule 1, constructors", constructors.length, 1);
        test.due("rule 1, constructor is public", Modifier.isPublic(constructors[0].getModifiers()), true);
        test.due("rule 1, final", Modifier.isFinal(NoEcho.class.getModifiers()), true);
        for (Field field : NoEcho.class.getDeclaredFields()) {
            boolean isPrivate = Modifier.isPrivate(field.getModifiers());
            test.due("rule 1, field " + field.getName(), isPrivate, !field.getName().equals("NONE"));
        }
    }

    private static void members() {
        Set<String> names = new TreeSet<>();
        for (String one : FACE) {
            names.add(one.substring(one.indexOf(' ') + 1, one.indexOf('(')));
        }
        Class<?>[] inside = NoEcho.class.getDeclaredClasses();
        test.due("rule 11, classes", inside.length + 1 <= 12, true);
        fieldsOf(NoEcho.class);
        for (Class<?> one : inside) {
            test.due("rule 2, static " + one.getName(), Modifier.isStatic(one.getModifiers()), true);
            test.due("rule 2, no class deeper in " + one.getName(), one.getDeclaredClasses().length, 0);
            fieldsOf(one);
            for (Method method : one.getDeclaredMethods()) {
                test.due("rule 1, name " + one.getName() + "." + method.getName(), names.contains(method.getName()), false);
                test.due("rule 11, parameters of " + method.getName(), method.getParameterCount() <= 7, true);
            }
        }
        for (Method method : NoEcho.class.getDeclaredMethods()) {
            boolean hides = Modifier.isPrivate(method.getModifiers()) && names.contains(method.getName());
            test.due("rule 1, private name " + method.getName(), hides, false);
            test.due("rule 11, parameters of " + method.getName(), method.getParameterCount() <= 7, true);
        }
    }

    private static void fieldsOf(Class<?> one) {
        int fields = 0;
        for (Field field : one.getDeclaredFields()) {
            boolean isStatic = Modifier.isStatic(field.getModifiers());
            fields += isStatic ? 0 : 1;
            test.due("rule 5, " + field, !isStatic || Modifier.isFinal(field.getModifiers()), true);
        }
        test.due("rule 11, fields of " + one.getName(), fields <= 20, true);
    }

    private static String withoutComments(String source) {
        return source.replaceAll("(?s)/\\*.*?\\*/", "").replaceAll("//[^\n]*", "");
    }

    private static void words(String code) {
        for (String one : FORBIDDEN) {
            Matcher matcher = Pattern.compile(one).matcher(code);
            boolean found = matcher.find();
            test.due("no " + one + " in the source", found, false);
        }
        for (int i = 0; i < code.length(); i++) {
            if (code.charAt(i) > 126) {
                test.due("sign " + (int) code.charAt(i), true, false);
            }
        }
    }

    /** A method begins with a line of four or eight blanks that ends in ) { and ends at its bracket. */
    private static void methodSizes(String source) {
        String[] lines = source.split("\n");
        int from = -1;
        String indent = "";
        for (int i = 0; i < lines.length; i++) {
            String line = lines[i];
            String blanks = line.substring(0, line.length() - line.stripLeading().length());
            boolean begins = line.endsWith(") {") && !line.contains(" class ") && (blanks.length() == 4 || blanks.length() == 8)
                    && !line.strip().matches("(if|for|while|switch|else|}).*");
            if (from < 0 && begins) {
                from = i;
                indent = blanks;
            } else if (from >= 0 && line.equals(indent + "}")) {
                test.due("rule 11, lines of " + lines[from].strip(), i - from + 1 <= 60, true);
                from = -1;
            }
            test.due("line " + (i + 1) + " is not too long", line.length() <= 125, true);
        }
    }
}
