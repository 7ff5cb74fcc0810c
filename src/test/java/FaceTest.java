import java.io.IOException;
import java.lang.reflect.Constructor;
import java.lang.reflect.Field;
import java.lang.reflect.Method;
import java.lang.reflect.Modifier;
import java.nio.file.Files;
import java.nio.file.Path;
import java.util.Arrays;
import java.util.HashMap;
import java.util.Map;
import java.util.Set;
import java.util.TreeSet;
import java.util.regex.Matcher;
import java.util.regex.Pattern;
import java.util.stream.Collectors;

/** The public face of the document, and those rules of LANGUAGE.md that a text search can see. */
public final class FaceTest {
    private static final Checks CHECKS = new Checks("FaceTest");
    private static final String[] FACE = {
        "boolean begin(int,int)", "boolean put(int,int,int)", "int fault()", "boolean take(int)",
        "int size(int)", "int at(int,int,int)", "int sum(int,int,int)", "int triangle(int,int,int)",
        "int arrow(int,boolean,int,int)", "int held(int,boolean,int,int)", "int link(int,int)",
        "int rings(int)", "int kind(int)", "int less(int)", "long count(int)", "long first(int,int)",
        "long weight(int)", "long number(int)", "boolean of(int,int,long)", "int draw(int,int,long)",
        "boolean both(int,int,int)", "boolean either(int,int,int)", "boolean below(int,int)",
        "int apart(int,int)", "boolean step(int,int,int,boolean)", "int toward(int,int)",
        "boolean turn(int)", "boolean move(int,int)", "int alike(int)"
    };
    private static final String[] RULED_OUT = {
        "\\bthrow\\b", "\\bthrows\\b", "\\btry\\b", "\\bcatch\\b", "\\bfinally\\b", "\\bsynchronized\\b",
        "\\bassert\\b", "->", "::", "\\bimport\\b", "\\bpackage\\b", "\\bSystem\\.(?!arraycopy)", "Exact\\b",
        "\\bstatic\\s*\\{", "\\bprotected\\b"
    };

    public static void main(String[] args) throws IOException {
        members();
        nested();
        String source = Files.readString(Path.of("src/main/java/SignBench.java"));
        String code = source.replaceAll("(?s)/\\*.*?\\*/", "").replaceAll("//.*", "");
        text(code);
        methods(code);
        CHECKS.end();
    }

    private static void members() {
        Set<String> methods = new TreeSet<>();
        for (Method method : SignBench.class.getDeclaredMethods()) {
            if (!Modifier.isPrivate(method.getModifiers()) && !method.isSynthetic()) {
                CHECKS.due(method + " is public, no static one",
                        method.getModifiers() == Modifier.PUBLIC, true);
                methods.add(method.getReturnType() + " " + method.getName() + Arrays
                        .stream(method.getParameterTypes()).map(Class::getName)
                        .collect(Collectors.joining(",", "(", ")")));
            }
        }
        CHECKS.due("the methods are " + methods, methods.equals(new TreeSet<>(Arrays.asList(FACE))), true);
        for (Field field : SignBench.class.getDeclaredFields()) {
            CHECKS.due(field + " is private or NONE",
                    Modifier.isPrivate(field.getModifiers()) || field.getName().equals("NONE"), true);
        }
        Constructor<?>[] made = SignBench.class.getDeclaredConstructors();
        CHECKS.due("constructors", made.length, 1);
        CHECKS.due("it is public", made[0].getModifiers() == Modifier.PUBLIC, true);
        CHECKS.due("the class is public and final",
                SignBench.class.getModifiers() == (Modifier.PUBLIC | Modifier.FINAL), true);
    }

    private static void nested() {
        Set<String> names = new TreeSet<>();
        for (String face : FACE) {
            names.add(face.substring(face.indexOf(' ') + 1, face.indexOf('(')));
        }
        int classes = 1;
        for (Class<?> inside : SignBench.class.getDeclaredClasses()) {
            classes++;
            CHECKS.due(inside + " is static", Modifier.isStatic(inside.getModifiers()), true);
            for (Method method : inside.getDeclaredMethods()) {
                CHECKS.due(method + " bears a name of the face", names.contains(method.getName()), false);
            }
            CHECKS.due(inside + " has at most 20 fields", inside.getDeclaredFields().length <= 20, true);
        }
        CHECKS.due("at most twelve classes", classes <= 12, true);
    }

    private static void text(String code) {
        for (String ruledOut : RULED_OUT) {
            Matcher matcher = Pattern.compile(ruledOut).matcher(code);
            CHECKS.due("'" + ruledOut + "' in the text", matcher.find(), false);
        }
    }

    /** Short, of few parameters, and calling at most eight deep, the library's functions counted too. */
    private static void methods(String code) {
        Map<String, Set<String>> calls = new HashMap<>();
        Matcher heads = Pattern.compile(
                "(?m)^ +(?:public|private)[^=;(\n]*?\\b([a-z]\\w*)\\(([^)]*)\\)\\s*\\{").matcher(code);
        while (heads.find()) {
            String name = heads.group(1);
            String body = code.substring(heads.end(), endOfBody(code, heads.end()));
            CHECKS.due(name + " is the only one of its name", calls.containsKey(name), false);
            CHECKS.due(name + " is short", body.lines().count() <= 60, true);
            CHECKS.due(name + " has at most seven parameters", heads.group(2).split(",").length <= 7, true);
            Set<String> called = new TreeSet<>();
            Matcher call = Pattern.compile("\\b(?!(?:if|for|while|switch)\\b)([a-z]\\w*)\\s*\\(").matcher(body);
            while (call.find()) {
                called.add(call.group(1));
            }
            calls.put(name, called);
        }
        CHECKS.due("methods are found", calls.size() > FACE.length, true);
        for (String name : calls.keySet()) {
            CHECKS.due(name + " calls at most eight deep", depth(calls, name, 0) <= 8, true);
        }
    }

    private static int endOfBody(String code, int from) {
        int open = 1;
        int at = from;
        while (open > 0) {
            char c = code.charAt(at);
            open += c == '{' ? 1 : c == '}' ? -1 : 0;
            at++;
        }
        return at - 1;
    }

    private static int depth(Map<String, Set<String>> calls, String name, int above) {
        int deepest = 0;
        // A method that came to itself would go on without end: it is told as too deep.
        for (String called : above > 20 ? Set.<String>of() : calls.getOrDefault(name, Set.of())) {
            deepest = Math.max(deepest, depth(calls, called, above + 1));
        }
        return deepest + 1;
    }
}
