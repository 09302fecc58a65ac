import java.io.IOException;
import java.io.InputStream;
import java.lang.reflect.Field;
import java.lang.reflect.Method;
import java.lang.reflect.Modifier;
import java.nio.file.Files;
import java.nio.file.Path;
import java.util.HashMap;
import java.util.HashSet;
import java.util.Map;
import java.util.Set;
import java.util.TreeSet;
import java.util.regex.Matcher;
import java.util.regex.Pattern;

/** The rules of LANGUAGE.md, as far as the source and the compiled classes tell; a check begins with its rule's number. */
public final class LanguageTests {
    /** Of rule 4 what the class needs, and no more. */
    private static final Set<String> LIBRARY = Set.of("java/lang/Object.<init>()V", "java/lang/String.length()I",
        "java/lang/String.charAt(I)C", "java/util/ArrayList.<init>()V", "java/util/List.add(Ljava/lang/Object;)Z",
        "java/util/List.get(I)Ljava/lang/Object;", "java/util/List.remove(I)Ljava/lang/Object;", "java/util/List.size()I",
        "java/util/List.isEmpty()Z", "java/util/List.clear()V", "java/lang/Math.max(II)I", "java/lang/Math.min(II)I",
        "java/lang/Integer.bitCount(I)I", "java/lang/Long.bitCount(J)I",
        "java/lang/System.arraycopy(Ljava/lang/Object;ILjava/lang/Object;II)V");
    /** A plan is tried knock by knock, twelve at most. */
    private static final Set<String> RECURSIVE = Set.of("search", "searchWith");
    private static final Set<String> MAKING = Set.of("<init>", "page", "look");
    private static final int DEEPEST = 8, LONGEST = 60, MOST_PARAMETERS = 7, MOST_CLASSES = 12, MOST_FIELDS = 20;
    private static final Checks check = new Checks();

    private final Map<String, ClassFile.Code> methods = new HashMap<>();
    private final Set<String> open = new HashSet<>();

    public static void main(String[] args) throws IOException {
        String text = Files.readString(Path.of("src/main/java/KeptPages.java"));
        words(text);
        lengths(text);
        Class<?> face = KeptPages.class;
        check.holds("11: some twelve classes", face.getDeclaredClasses().length < MOST_CLASSES);
        members(face);
        LanguageTests compiled = new LanguageTests();
        compiled.read(face);
        for (Class<?> inside : face.getDeclaredClasses()) {
            check.holds("1: " + inside + " is private and static",
                Modifier.isPrivate(inside.getModifiers()) && Modifier.isStatic(inside.getModifiers()));
            members(inside);
            compiled.read(inside);
        }
        compiled.code();
        check.end("LanguageTests");
    }

    /** The source without its comments, and with its texts empty. */
    private static String code(String text) {
        return text.replaceAll("(?s)/\\*.*?\\*/", "").replaceAll("//[^\n]*", "").replaceAll("\"[^\"]*\"", "\"\"");
    }

    private static void words(String text) {
        String code = code(text);
        for (String word : new String[] {"throw", "throws", "try", "catch", "synchronized", "assert", "package", "volatile",
            "native", "var", "record", "equals", "hashCode", "toString", "Object", "Random", "Thread", "Exception"}) {
            check.holds("6: no " + word, !Pattern.compile("\\b" + word + "\\b").matcher(code).find());
        }
        check.holds("2: no lambda", !code.contains("->"));
        check.holds("2: no method reference", !code.contains("::"));
        check.holds("5: no static block", !Pattern.compile("static\\s*\\{").matcher(code).find());
        check.holds("10: no texts joined by +", !Pattern.compile("\"\"\\s*\\+|\\+\\s*\"\"").matcher(code).find());
        check.holds("4: signs 1 to 127 alone", text.chars().allMatch(c -> c > 0 && c < 128));
        Set<String> known = Set.of("import java.util.ArrayList;", "import java.util.List;");
        text.lines().filter(l -> l.startsWith("import")).forEach(l -> check.holds("4: " + l, known.contains(l)));
    }

    /** A method opens with a line that ends in ") {" and closes with a brace as far in. */
    private static void lengths(String text) {
        String[] lines = text.split("\n");
        int methods = 0;
        for (int i = 0; i < lines.length; i++) {
            Matcher opens = Pattern.compile("^( {4}| {8})(public|private|static|[A-Za-z]).*\\) \\{$").matcher(lines[i]);
            if (opens.matches()) {
                int end = i;
                while (end < lines.length && !lines[end].equals(opens.group(1) + "}")) end++;
                check.holds("11: line " + (i + 1) + " opens a method of sixty lines at most", end - i < LONGEST);
                methods++;
            }
        }
        check.holds("methods were found", methods > 60);
    }

    private static void members(Class<?> owner) {
        int own = 0;
        for (Field field : owner.getDeclaredFields()) {
            if (Modifier.isStatic(field.getModifiers())) {
                check.holds("5: " + field + " is final", Modifier.isFinal(field.getModifiers()));
                check.holds("5: " + field + " is a plain constant",
                    Set.of(int.class, long.class, boolean.class, char.class, String.class).contains(field.getType()));
            } else {
                own++;
            }
        }
        check.holds("11: " + owner + " has some twenty fields", own <= MOST_FIELDS);
        for (Method method : owner.getDeclaredMethods()) {
            check.holds("11: " + method + " has seven parameters at most", method.getParameterCount() <= MOST_PARAMETERS);
            check.holds("1: " + method + " has no name of the face",
                Modifier.isPublic(method.getModifiers()) || !faceNames().contains(method.getName()));
        }
    }

    private static Set<String> faceNames() {
        Set<String> names = new HashSet<>();
        for (Method method : KeptPages.class.getDeclaredMethods()) {
            if (Modifier.isPublic(method.getModifiers())) names.add(method.getName());
        }
        return names;
    }

    private void read(Class<?> type) throws IOException {
        try (InputStream in = type.getResourceAsStream(type.getName() + ".class")) {
            for (ClassFile.Code code : new ClassFile(in.readAllBytes()).methods) methods.put(code.name, code);
        }
    }

    private void code() {
        Set<String> recursive = new TreeSet<>();
        for (ClassFile.Code code : methods.values()) {
            check.holds("6: " + code.name + " throws nothing", !code.doesThrow);
            check.holds("6: " + code.name + " catches nothing", !code.catches);
            check.holds("6: " + code.name + " locks nothing", !code.locks);
            check.holds("2: " + code.name + " has no lambda", !code.isDynamic);
            check.holds("12: " + code.name + " makes nothing", !code.makes || MAKING.contains(plainName(code.name)));
            for (String called : code.calls) {
                check.holds("4: " + called, methods.containsKey(called) || LIBRARY.contains(called));
            }
            int deep = depth(code.name, recursive);
            check.holds("11: " + code.name + " goes " + deep + " deep", deep <= DEEPEST);
        }
        check.holds("8: recursion is the planner's alone: " + recursive, recursive.equals(RECURSIVE));
    }

    /** How many calls stand open at most, the library's too; one that comes back to itself is counted once. */
    private int depth(String name, Set<String> recursive) {
        if (!methods.containsKey(name)) {
            return 1;
        }
        if (!open.add(name)) {
            recursive.add(plainName(name));
            return 0;
        }
        int deepest = 0;
        for (String called : methods.get(name).calls) {
            deepest = Math.max(deepest, depth(called, recursive));
        }
        open.remove(name);
        return 1 + deepest;
    }

    private static String plainName(String name) {
        return name.substring(name.indexOf('.') + 1, name.indexOf('('));
    }
}
