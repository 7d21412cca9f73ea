import java.lang.reflect.Constructor;
import java.lang.reflect.Field;
import java.lang.reflect.Method;
import java.lang.reflect.Modifier;
import java.nio.file.Files;
import java.nio.file.Path;
import java.util.HashSet;
import java.util.List;
import java.util.Set;
import java.util.TreeSet;
import java.util.regex.Matcher;
import java.util.regex.Pattern;

/** The rules of LANGUAGE.md, as far as they can be seen in the source and in the built class. */
public final class SourceTest {
    private static final Check CHECK = new Check("SourceTest");
    private static final Set<String> METHODS = Set.of(
            "write(int)", "erase()", "fault()", "desk()", "number(int,int)", "of(int,int)", "unit(int,int)",
            "set(int,int,int,int,int)", "add(int,int)", "times(int,int,int)", "turn(int,int)",
            "divide(int,int,int,int)", "common(int,int,int)", "undo()", "keep(int)", "back(int)",
            "divides(int,int,int)", "nearest(int,int,int,int)", "steps(int,int,int)",
            "mate(int,int,int,int)", "factor(int,int,int)", "prime(int,int,int,int)",
            "list(int,int,int,int)", "squares(int,int,int)", "turned(int,int,int)", "rank(int)",
            "tally(int,int)", "load(int,int,int)", "work(int,int,int,int)", "latest()", "drop(int)",
            "count(int)");
    private static final List<String> CONSTANTS = List.of("NONE", "UNKNOWN", "OUTSIDE", "NOT", "FULL",
            "NULL", "INDEX", "SIZE", "ZERO", "OVER");

    public static void main(String[] args) throws Exception {
        String source = Files.readString(Path.of("src/main/java/QuaternionDesk.java"));
        face();
        members();
        words(plain(source));
        lengths(source);
        CHECK.finish();
    }

    /** The source without comments, and with nothing inside its texts and letters. */
    private static String plain(String source) {
        return source.replaceAll("(?s)/\\*.*?\\*/", " ").replaceAll("//[^\n]*", " ")
                .replaceAll("\"[^\"]*\"", "\"\"").replaceAll("'[^']*'", "' '");
    }

    private static String told(Method method) {
        StringBuilder told = new StringBuilder(method.getName()).append('(');
        for (Class<?> type : method.getParameterTypes()) {
            told.append(told.charAt(told.length() - 1) == '(' ? "" : ",").append(type.getName());
        }
        return told.append(')').toString();
    }

    private static void face() {
        CHECK.isTrue("public and final",
                Modifier.isPublic(QuaternionDesk.class.getModifiers()) && Modifier.isFinal(QuaternionDesk.class.getModifiers()));
        Set<String> open = new TreeSet<>();
        for (Method method : QuaternionDesk.class.getDeclaredMethods()) {
            if (!Modifier.isPrivate(method.getModifiers())) {
                open.add(told(method));
                CHECK.isTrue(method + " is public, answers an int",
                        Modifier.isPublic(method.getModifiers()) && method.getReturnType() == int.class);
            }
        }
        CHECK.isTrue("the face's methods, no more: " + open, open.equals(new TreeSet<>(METHODS)));
        Set<String> fields = new TreeSet<>();
        for (Field field : QuaternionDesk.class.getDeclaredFields()) {
            if (!Modifier.isPrivate(field.getModifiers())) {
                fields.add(field.getName());
            }
        }
        CHECK.isTrue("the face's constants, no more: " + fields, fields.equals(new TreeSet<>(CONSTANTS)));
        Constructor<?>[] made = QuaternionDesk.class.getDeclaredConstructors();
        CHECK.isTrue("one constructor, public, of nothing", made.length == 1
                && Modifier.isPublic(made[0].getModifiers()) && made[0].getParameterCount() == 0);
    }

    private static void members() {
        Set<String> names = new HashSet<>();
        for (String method : METHODS) {
            names.add(method.substring(0, method.indexOf('(')));
        }
        Class<?>[] inside = QuaternionDesk.class.getDeclaredClasses();
        CHECK.isTrue("twelve classes at most", inside.length + 1 <= 12);
        for (Class<?> own : inside) {
            CHECK.isTrue(own + " is static", Modifier.isStatic(own.getModifiers()));
            for (Method method : own.getDeclaredMethods()) {
                CHECK.isTrue(method + " has a name of its own",
                        !Modifier.isPrivate(method.getModifiers()) || !names.contains(method.getName()));
            }
            fields(own);
        }
        for (Method method : QuaternionDesk.class.getDeclaredMethods()) {
            CHECK.isTrue(method + " has a name of its own",
                    !Modifier.isPrivate(method.getModifiers()) || !names.contains(method.getName()));
        }
        fields(QuaternionDesk.class);
    }

    private static void fields(Class<?> own) {
        int many = 0;
        for (Field field : own.getDeclaredFields()) {
            if (Modifier.isStatic(field.getModifiers())) {
                CHECK.isTrue(field + " is final", Modifier.isFinal(field.getModifiers()));
            } else {
                many++;
            }
        }
        CHECK.isTrue(own + " has twenty fields at most", many <= 20);
        for (Method method : own.getDeclaredMethods()) {
            CHECK.isTrue(method + " takes seven at most", method.getParameterCount() <= 7);
        }
    }

    private static void words(String plain) {
        for (String word : List.of("package", "throw", "throws", "try", "catch", "finally",
                "synchronized", "assert", "protected", "volatile", "native", "var", "Object", "Thread",
                "Random", "Exception", "Error", "Throwable", "hashCode", "Double", "Float", "Character")) {
            CHECK.isTrue("the source has no " + word, !Pattern.compile("\\b" + word + "\\b").matcher(plain).find());
        }
        for (String sign : List.of("->", "::", "@", "...", "Exact(", "static {")) {
            CHECK.isTrue("the source has no " + sign, !plain.contains(sign));
        }
        Matcher imports = Pattern.compile("\\bimport ([\\w.*]+)").matcher(plain);
        while (imports.find()) {
            CHECK.isTrue(imports.group() + " is in the library",
                    imports.group(1).matches("java\\.util\\.(ArrayList|List|Arrays|Iterator)"));
        }
        Matcher calls = Pattern.compile("\\b(System|Arrays)\\.(\\w+)").matcher(plain);
        while (calls.find()) {
            CHECK.isTrue(calls.group() + " is in the library", calls.group().matches(
                    "System\\.arraycopy|Arrays\\.(copyOf|copyOfRange|fill)"));
        }
        for (char letter : plain.toCharArray()) {
            if (letter > 126) {
                CHECK.isTrue("a letter " + (int) letter, false);
            }
        }
    }

    /** A method begins where its line ends with a brace, and ends with a brace as far in. */
    private static void lengths(String source) {
        String[] lines = source.split("\n");
        Pattern begin = Pattern.compile("^( {4}| {8})(?=\\w)[\\w<>\\[\\] ]+\\([^;]*\\) \\{$");
        for (int i = 0; i < lines.length; i++) {
            Matcher matcher = begin.matcher(lines[i]);
            if (!matcher.matches() || lines[i].matches(" *(if|for|while|switch|else).*")) {
                continue;
            }
            int end = i;
            while (end < lines.length && !lines[end].equals(matcher.group(1) + "}")) {
                end++;
            }
            CHECK.isTrue("sixty lines at most: " + lines[i], end - i <= 60);
        }
    }
}
