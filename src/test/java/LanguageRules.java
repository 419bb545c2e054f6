import java.io.IOException;
import java.lang.reflect.Constructor;
import java.lang.reflect.Field;
import java.lang.reflect.Method;
import java.lang.reflect.Modifier;
import java.nio.file.Files;
import java.nio.file.Path;
import java.util.ArrayList;
import java.util.List;
import java.util.Set;
import java.util.TreeSet;
import java.util.regex.Matcher;
import java.util.regex.Pattern;

/** The face of the class, and those rules of LANGUAGE.md that can be read off its text. Runs in the project's folder. */
public final class LanguageRules {
    private static final Check CHECK = new Check("LanguageRules");

    private static final Set<String> METHODS = new TreeSet<>(List.of(
        "type(int)", "clear()", "desk()", "ranking(int,int)", "node(int,int)", "votes(int,int)", "now(int)",
        "ranks(int,int)", "swaps(int)", "sets(int)", "undo()", "order(int,int)", "reach(int,int,int)",
        "better(int,int,int)", "won(int,int,int)", "odds(int,int,int,int)", "sees(int,int)", "forget()",
        "rankings(int)", "watch()", "keep(int)", "back(int)", "count(int)"));
    private static final Set<String> CONSTANTS = new TreeSet<>(List.of("BAD", "STATE", "FULL", "NONE"));

    private static final String[] FORBIDDEN = {
        "\\bthrow\\b", "\\btry\\b", "\\bcatch\\b", "\\bsynchronized\\b", "\\bassert\\b", "\\bfinally\\b",
        "->", "::", "\\bvar\\b", "\\bpackage\\b", "\\w+Exact\\b", "\\bSystem\\.(?!arraycopy\\b)", "\\bstatic\\s*\\{",
        "\\bequals\\b", "\\bhashCode\\b", "\\btoString\\b", "\\bRandom\\b", "\\bThread\\b", "\\bObject\\b",
        "\\bArrays\\.(?!copyOf\\b|copyOfRange\\b|fill\\b)", "\\bimport (?!java\\.util\\.(Arrays|ArrayList|List|Iterator);)"};

    public static void main(String[] args) throws IOException {
        face(MotionDesk.class);
        for (Class<?> inside : MotionDesk.class.getDeclaredClasses()) {
            inside(inside);
        }
        due("classes, some twelve at most", MotionDesk.class.getDeclaredClasses().length < 12);
        source(Files.readString(Path.of("src/main/java/MotionDesk.java")));
        CHECK.end();
    }

    private static void due(String what, boolean so) {
        CHECK.due(what, so ? 1 : 0, 1);
    }

    private static String signature(Method method) {
        List<String> types = new ArrayList<>();
        for (Class<?> type : method.getParameterTypes()) {
            types.add(type.getName());
        }
        return method.getName() + "(" + String.join(",", types) + ")";
    }

    private static void face(Class<?> type) {
        due("public and final", Modifier.isPublic(type.getModifiers()) && Modifier.isFinal(type.getModifiers()));
        Set<String> methods = new TreeSet<>();
        for (Method method : type.getDeclaredMethods()) {
            if (Modifier.isPrivate(method.getModifiers())) {
                due("private " + method.getName(), METHODS.stream().noneMatch(m -> m.startsWith(method.getName() + "(")));
                continue;
            }
            methods.add(signature(method));
            due("int " + method, method.getReturnType() == int.class && Modifier.isPublic(method.getModifiers()));
        }
        due("methods " + methods, methods.equals(METHODS));
        Set<String> constants = new TreeSet<>();
        for (Field field : type.getDeclaredFields()) {
            if (!Modifier.isPrivate(field.getModifiers())) {
                constants.add(field.getName());
                due(field.toString(), field.toString().startsWith("public static final int"));
            }
        }
        due("constants " + constants, constants.equals(CONSTANTS));
        Constructor<?>[] constructors = type.getDeclaredConstructors();
        due("one public constructor", constructors.length == 1 && Modifier.isPublic(constructors[0].getModifiers()));
        fields(type);
    }

    private static void inside(Class<?> type) {
        due(type + " is static", Modifier.isStatic(type.getModifiers()));
        for (Method method : type.getDeclaredMethods()) {
            due(type + "." + method.getName(), METHODS.stream().noneMatch(m -> m.startsWith(method.getName() + "(")));
        }
        fields(type);
    }

    private static void fields(Class<?> type) {
        int own = 0;
        for (Field field : type.getDeclaredFields()) {
            if (Modifier.isStatic(field.getModifiers())) {
                due(field + " is final", Modifier.isFinal(field.getModifiers()));
            } else {
                own++;
            }
        }
        due(type + " has some twenty fields at most", own <= 20);
        for (Method method : type.getDeclaredMethods()) {
            due(method + " has seven parameters at most", method.getParameterCount() <= 7);
        }
    }

    private static void source(String text) {
        String code = text.replaceAll("(?s)/\\*.*?\\*/", " ").replaceAll("//[^\n]*", " ");
        for (String word : FORBIDDEN) {
            Matcher matcher = Pattern.compile(word).matcher(code);
            due("the text has none of " + word, !matcher.find());
        }
        due("the text is ASCII", text.chars().allMatch(sign -> sign < 128));
        methodLengths(text.split("\n"));
    }

    private static void methodLengths(String[] lines) {
        Matcher start = Pattern.compile("^( {4}| {8})(public|private) .*\\) \\{$").matcher("");
        for (int i = 0; i < lines.length; i++) {
            if (!start.reset(lines[i]).matches()) {
                continue;
            }
            String end = start.group(1) + "}";
            int length = 1;
            while (i + length < lines.length && !lines[i + length].equals(end)) {
                length++;
            }
            due("some sixty lines at most: " + lines[i], length <= 60);
        }
    }
}
