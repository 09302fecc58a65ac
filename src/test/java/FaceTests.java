import java.io.IOException;
import java.lang.reflect.Field;
import java.lang.reflect.Method;
import java.lang.reflect.Modifier;
import java.nio.file.Files;
import java.nio.file.Path;
import java.util.ArrayList;
import java.util.Arrays;
import java.util.Collections;
import java.util.HashSet;
import java.util.List;
import java.util.Set;
import java.util.regex.Matcher;
import java.util.regex.Pattern;

/** The face as the document has it, and the rules of LANGUAGE.md that can be seen from outside. */
public final class FaceTests {
    private static final String[] FACE = {
        "int go(int)", "int page(int)", "int look(int,int,long,int)", "int take(int)", "int told(int,int)",
        "long pieces(int)", "int view(int,int)", "int count(int)", "int feed(int,long)", "int read()",
        "int program(int)", "int fault()", "int right(int)", "int alike(int,int)", "int sure(int,int)",
        "int state(int,int)", "int hours(int,int,int,int)", "int part(int)", "int wipe()", "int whole(int)",
        "int bothWays(int,int,int)", "int rate(int)", "int plan(int,int)", "int links(int,int,int)", "int more(int,int)",
        "int likeness(int,int)", "int moved(int)", "int lose(int,int)", "int words(int,int)", "int mend()",
        "int shown(int,int,int)", "int since(int,int,int)", "int first(int)", "long nowhere()"};
    private static final Checks check = new Checks();

    public static void main(String[] args) throws IOException {
        Class<?> face = KeptPages.class;
        check.holds("the class is public and final", face.getModifiers() == (Modifier.PUBLIC | Modifier.FINAL));
        check.due("constructors", face.getDeclaredConstructors().length, 1);
        check.holds("the constructor is public", Modifier.isPublic(face.getDeclaredConstructors()[0].getModifiers()));
        methods(face);
        constants(face);
        for (Class<?> inside : face.getDeclaredClasses()) insideClass(inside);
        check.holds("some twelve classes", face.getDeclaredClasses().length < 12);
        source(Files.readString(Path.of("src/main/java/KeptPages.java")));
        check.end("FaceTests");
    }

    private static void methods(Class<?> face) {
        List<String> open = new ArrayList<>();
        for (Method method : face.getDeclaredMethods()) {
            if (Modifier.isPublic(method.getModifiers())) {
                open.add(told(method));
            } else {
                check.holds(method + " is private", Modifier.isPrivate(method.getModifiers()));
                check.holds(method + " has no name of the face", !names().contains(method.getName()));
            }
        }
        List<String> want = new ArrayList<>(Arrays.asList(FACE));
        Collections.sort(want);
        Collections.sort(open);
        check.holds("the public methods are those of the document: " + open, open.equals(want));
    }

    private static String told(Method method) {
        StringBuilder text = new StringBuilder(method.getReturnType() + " " + method.getName() + "(");
        for (int i = 0; i < method.getParameterCount(); i++) {
            text.append(i == 0 ? "" : ",").append(method.getParameterTypes()[i]);
        }
        return text.append(")").toString();
    }

    private static Set<String> names() {
        Set<String> names = new HashSet<>();
        for (String method : FACE) names.add(method.substring(method.indexOf(' ') + 1, method.indexOf('(')));
        return names;
    }

    private static void constants(Class<?> face) {
        Set<String> open = new HashSet<>();
        for (Field field : face.getDeclaredFields()) {
            if (!Modifier.isPrivate(field.getModifiers())) {
                open.add(field.getName());
                check.due(field + "", field.getModifiers(), Modifier.PUBLIC | Modifier.STATIC | Modifier.FINAL);
                check.holds(field + " is an int", field.getType() == int.class);
            }
        }
        check.holds("the constants are those of the document",
            open.equals(Set.of("NONE", "UNKNOWN", "OUTSIDE", "NOT", "FULL")));
        fields(face);
    }

    private static void fields(Class<?> owner) {
        int own = 0;
        for (Field field : owner.getDeclaredFields()) {
            if (Modifier.isStatic(field.getModifiers())) {
                check.holds(field + " is final", Modifier.isFinal(field.getModifiers()));
                check.holds(field + " is a plain constant",
                    Set.of(int.class, long.class, boolean.class, char.class, String.class).contains(field.getType()));
            } else {
                own++;
            }
        }
        check.holds(owner + " has some twenty fields", own <= 20);
    }

    private static void insideClass(Class<?> inside) {
        check.holds(inside + " is private and static", Modifier.isPrivate(inside.getModifiers())
            && Modifier.isStatic(inside.getModifiers()));
        fields(inside);
        for (Method method : inside.getDeclaredMethods()) {
            check.holds(method + " has no name of the face", !names().contains(method.getName()));
            check.holds(method + " has seven parameters at most", method.getParameterCount() <= 7);
        }
    }

    private static void source(String text) {
        String code = text.replaceAll("(?s)/\\*.*?\\*/", "").replaceAll("//[^\n]*", "").replaceAll("\"[^\"]*\"", "\"\"");
        for (String word : new String[] {"throw", "throws", "try", "catch", "synchronized", "assert", "package", "volatile",
            "native", "var", "record", "equals", "hashCode", "toString", "Object", "Random", "Thread", "Exception"}) {
            check.holds("no " + word, !Pattern.compile("\\b" + word + "\\b").matcher(code).find());
        }
        check.holds("no lambda", !code.contains("->"));
        check.holds("no method reference", !code.contains("::"));
        check.holds("no static block", !Pattern.compile("static\\s*\\{").matcher(code).find());
        check.holds("characters 1 to 127 alone", text.chars().allMatch(c -> c > 0 && c < 128));
        Set<String> known = Set.of("import java.util.ArrayList;", "import java.util.List;");
        text.lines().filter(l -> l.startsWith("import")).forEach(l -> check.holds(l, known.contains(l)));
        library(code);
        lengths(text);
    }

    private static void library(String code) {
        Set<String> known = Set.of("Math.max", "Math.min", "Long.bitCount", "Integer.bitCount", "System.arraycopy");
        Matcher call = Pattern.compile("\\b([A-Z][a-z]+\\.[a-z]\\w*)\\(").matcher(code);
        while (call.find()) check.holds(call.group(1) + " is of the library listed", known.contains(call.group(1)));
    }

    /** A method opens with a line that ends in ") {" and closes with a brace as far in. */
    private static void lengths(String text) {
        String[] lines = text.split("\n");
        int methods = 0;
        for (int i = 0; i < lines.length; i++) {
            Matcher opens = Pattern.compile("^( {4}| {8})(public|private|static|[A-Za-z]).*\\) \\{$").matcher(lines[i]);
            if (opens.matches()) {
                int end = i;
                while (end < lines.length && !lines[end].equals(opens.group(1) + "}")) end++;
                check.holds("line " + (i + 1) + " opens a method of sixty lines at most", end - i < 60);
                methods++;
            }
        }
        check.holds("methods were found", methods > 60);
    }
}
