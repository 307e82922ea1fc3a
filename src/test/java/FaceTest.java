import java.io.IOException;
import java.lang.reflect.Constructor;
import java.lang.reflect.Field;
import java.lang.reflect.Member;
import java.lang.reflect.Method;
import java.lang.reflect.Modifier;
import java.nio.file.Files;
import java.nio.file.Path;
import java.util.ArrayList;
import java.util.HashMap;
import java.util.HashSet;
import java.util.List;
import java.util.Map;
import java.util.Set;
import java.util.regex.Matcher;
import java.util.regex.Pattern;

/** The public face, and those rules of LANGUAGE.md that can be looked at from outside. */
public final class FaceTest {
    private static final String[] FACE = {
        "int row(int,int)", "int lay(int,int,int)", "int at(int,int)", "int tear(int)",
        "int copy(int,int,int,int,int)", "int mean(int)", "int text(int,int)", "int put(int,int,int)",
        "int fault(int)", "int place(int)", "int house(int,int)", "int mark(int,int)", "int worth(int,int)",
        "int day()", "int spring()", "int lend(int,int,int)", "int leave(int,int)", "int take(int,int)",
        "int undo(int)", "int keep(int)", "int on(int)", "int works()", "int later(int,int)", "int when(int)",
        "int lacks(int)", "int share()", "int best()", "int lending(int)", "int greedy(int)", "int kinds(int,int)",
        "int test(int,int)", "int jars(int,int)", "int duel(int,int,int)", "int odds(int,int)", "int mid(int)",
        "int lots(int,int)", "int asked()", "long upper()", "long lower()", "int count(int)", "int finding()",
        "int findings(int)", "long digest()"};
    private static final String[] CONSTANTS = {"BAD", "FULL", "FINDING", "STATE", "SPENT", "NONE"};
    private static final String[] NOT_THERE = {"throw ", "throws ", "try ", "catch ", "synchronized", "assert ", "->",
        "::", "package ", "Exact(", "System.out", "System.nano", "System.current", "Math.random", "Math.sqrt",
        "java.io", "java.time", "Thread", "instanceof Object", "String.", "\" +", "+ \""};
    private static final Set<String> LIBRARY = Set.of("Arrays.fill", "Integer.bitCount", "Math.max", "Math.min",
        "System.arraycopy");
    private static final int MOST_LINES = 60;

    public static void main(String[] args) throws IOException {
        methods();
        constants();
        constructors();
        inside();
        source();
        Due.end("FaceTest");
    }

    private static void methods() {
        List<String> shown = new ArrayList<>();
        Set<String> publicNames = new HashSet<>();
        for (Method method : LuckJars.class.getDeclaredMethods()) {
            if (!isPrivate(method)) {
                shown.add(method.getReturnType() + " " + method.getName() + parameters(method));
                publicNames.add(method.getName());
                Due.is("public and no static: " + method, method.getModifiers(), Modifier.PUBLIC);
            }
            Due.is("at most seven parameters: " + method, method.getParameterCount() > 7 ? 1 : 0, 0);
        }
        for (String one : FACE) {
            Due.is("the face has " + one, shown.remove(one) ? 1 : 0, 1);
        }
        Due.is("no more in the face: " + shown, shown.size(), 0);
        noPrivateOneIsNamedAlike(LuckJars.class, publicNames);
        for (Class<?> one : LuckJars.class.getDeclaredClasses()) {
            noPrivateOneIsNamedAlike(one, publicNames);
        }
    }

    private static String parameters(Method method) {
        List<String> names = new ArrayList<>();
        for (Class<?> type : method.getParameterTypes()) {
            names.add(type.getName());
        }
        return "(" + String.join(",", names) + ")";
    }

    private static void noPrivateOneIsNamedAlike(Class<?> in, Set<String> publicNames) {
        for (Method method : in.getDeclaredMethods()) {
            boolean alike = publicNames.contains(method.getName());
            Due.is("named alike: " + method, alike && (in != LuckJars.class || isPrivate(method)) ? 1 : 0, 0);
        }
    }

    private static boolean isPrivate(Member member) {
        return Modifier.isPrivate(member.getModifiers());
    }

    private static void constants() {
        Map<String, Field> shown = new HashMap<>();
        int own = 0;
        for (Field field : LuckJars.class.getDeclaredFields()) {
            boolean constant = Modifier.isStatic(field.getModifiers());
            own += constant ? 0 : 1;
            Due.is("static is final: " + field, constant && !Modifier.isFinal(field.getModifiers()) ? 1 : 0, 0);
            if (!isPrivate(field)) {
                shown.put(field.getName(), field);
            }
        }
        for (String name : CONSTANTS) {
            Field field = shown.remove(name);
            Due.is("the face has " + name, field == null || field.getType() != int.class ? 0 : 1, 1);
        }
        Due.is("no more constants: " + shown, shown.size(), 0);
        Due.is("some twenty fields: " + own, own > 20 ? 1 : 0, 0);
    }

    private static void constructors() {
        Constructor<?>[] all = LuckJars.class.getDeclaredConstructors();
        Due.is("one constructor", all.length, 1);
        Due.is("without parameters", all[0].getParameterCount(), 0);
        Due.is("public and final", LuckJars.class.getModifiers(), Modifier.PUBLIC | Modifier.FINAL);
    }

    private static void inside() {
        Class<?>[] all = LuckJars.class.getDeclaredClasses();
        Due.is("some twelve classes", all.length > 11 ? 1 : 0, 0);
        for (Class<?> one : all) {
            int modifiers = one.getModifiers();
            boolean fits = Modifier.isStatic(modifiers) && !Modifier.isPublic(modifiers)
                && !Modifier.isProtected(modifiers);
            Due.is("static, private or package-visible: " + one, fits ? 1 : 0, 1);
        }
    }

    private static void source() throws IOException {
        String source = Files.readString(Path.of("src/main/java/LuckJars.java"));
        String code = source.replaceAll("(?s)/\\*.*?\\*/", "").replaceAll("//[^\n]*", "");
        for (String word : NOT_THERE) {
            Due.is("not in the program: " + word, code.contains(word) ? 1 : 0, 0);
        }
        for (String line : code.split("\n")) {
            boolean other = line.startsWith("import ") && !line.equals("import java.util.Arrays;");
            Due.is("no other library: " + line, other ? 1 : 0, 0);
        }
        library(code);
        lengths(code);
    }

    private static void library(String code) {
        Matcher call = Pattern.compile("\\b[A-Z][A-Za-z]*\\.[a-z]\\w*").matcher(code);
        while (call.find()) {
            Due.is("of the library: " + call.group(), LIBRARY.contains(call.group()) ? 1 : 0, 1);
        }
    }

    // A method ends by a brace as deep as its first line stands.
    private static void lengths(String code) {
        Matcher method = Pattern.compile("(?m)^( {4}| {8})\\w[\\w ]*\\([^()]*\\) \\{$").matcher(code);
        int methods = 0;
        while (method.find()) {
            int end = code.indexOf("\n" + method.group(1) + "}", method.start());
            long lines = end < 0 ? code.length() : code.substring(method.start(), end).lines().count() + 1;
            Due.is("some sixty lines: " + method.group().trim(), lines > MOST_LINES ? 1 : 0, 0);
            methods++;
        }
        Due.is("methods found: " + methods, methods < FACE.length ? 1 : 0, 0);
    }
}
