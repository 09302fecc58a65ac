import java.io.IOException;
import java.lang.reflect.Field;
import java.lang.reflect.Member;
import java.lang.reflect.Method;
import java.lang.reflect.Modifier;
import java.nio.file.Files;
import java.nio.file.Path;
import java.util.ArrayList;
import java.util.List;
import java.util.TreeSet;
import java.util.regex.Matcher;
import java.util.regex.Pattern;

/** The public face: what the document writes of it stands in the source as it is written there, and nothing else is open. */
public final class FaceTests {
    private static final Path DOCUMENT = Path.of("../shared/DOC.md");
    private static final Path SOURCE = Path.of("src/main/java/KeptPages.java");
    private static final int METHODS = 34;
    private static final Checks check = new Checks();

    public static void main(String[] args) throws IOException {
        Class<?> face = KeptPages.class;
        check.holds("the class is public and final", face.getModifiers() == (Modifier.PUBLIC | Modifier.FINAL));
        check.due("constructors", face.getDeclaredConstructors().length, 1);
        check.holds("the constructor is public", Modifier.isPublic(face.getDeclaredConstructors()[0].getModifiers()));
        check.due("open methods", openMethods().size(), METHODS);
        constants(face);
        if (Files.isReadable(DOCUMENT)) {
            compare(Files.readAllLines(DOCUMENT), Files.readAllLines(SOURCE));
        }
        check.end("FaceTests");
    }

    private static void compare(List<String> document, List<String> source) {
        List<String> written = faceOf(document);
        stands(written, source);
        onlyThese(written);
        groups(document, source);
        headings(document);
    }

    /** The lines of the document's face, from the class to its end. */
    private static List<String> faceOf(List<String> document) {
        int from = document.indexOf("public final class KeptPages {");
        int to = document.indexOf("}");
        check.holds("the document has a face", from >= 0 && to > from);
        return from >= 0 && to > from ? document.subList(from, to) : new ArrayList<>();
    }

    /** Where the document ends a call by a sign, the source opens its body. */
    private static void stands(List<String> written, List<String> source) {
        int last = -1;
        for (String line : written) {
            String due = line.endsWith(");") ? line.substring(0, line.length() - 1) + " {" : line;
            check.holds("the source has \"" + due + "\", behind the one before", source.indexOf(due) > last);
            last = source.indexOf(due);
        }
    }

    private static void onlyThese(List<String> written) {
        TreeSet<String> due = new TreeSet<>();
        for (String line : written) {
            Matcher call = Pattern.compile(" {4}public (?:int|long) (\\w+)\\(.*\\);").matcher(line);
            if (call.matches()) due.add(call.group(1));
        }
        check.due("methods of the document", due.size(), METHODS);
        check.holds("no other method is open: " + openMethods(), openMethods().equals(due));
    }

    private static TreeSet<String> openMethods() {
        TreeSet<String> open = new TreeSet<>();
        for (Method method : KeptPages.class.getDeclaredMethods()) {
            if (isOpen(method)) check.holds(method + " is the only one of its name", open.add(method.getName()));
        }
        return open;
    }

    private static boolean isOpen(Member member) {
        return !Modifier.isPrivate(member.getModifiers());
    }

    private static void constants(Class<?> face) {
        TreeSet<String> open = new TreeSet<>();
        for (Field field : face.getDeclaredFields()) {
            if (isOpen(field)) {
                open.add(field.getName());
                check.due(field + "", field.getModifiers(), Modifier.PUBLIC | Modifier.STATIC | Modifier.FINAL);
                check.holds(field + " is an int", field.getType() == int.class);
            }
        }
        check.holds("no other field is open: " + open, open.toString().equals("[FULL, NONE, NOT, OUTSIDE, UNKNOWN]"));
    }

    /** The document tells of each group of calls what stands ahead of it; in the source it stands there, too. */
    private static void groups(List<String> document, List<String> source) {
        List<String> due = new ArrayList<>();
        for (String line : document) {
            Matcher group = Pattern.compile("Ahead of the calls (.*) the interface says: (---- .*)\\.").matcher(line);
            if (group.matches()) due.add(group.group(2) + ": " + group.group(1).replaceAll("[`,]", ""));
        }
        List<String> found = new ArrayList<>();
        for (String line : source) {
            Matcher call = Pattern.compile(" {4}public (?:int|long) (\\w+)\\(.*\\{").matcher(line);
            int last = found.size() - 1;
            if (line.startsWith("    // ----")) found.add(line.trim().substring(3) + ":");
            else if (call.matches() && last >= 0) found.set(last, found.get(last) + " " + call.group(1));
        }
        check.due("groups of the document", due.size(), 8);
        for (int i = 0; i < due.size(); i++) {
            String there = i < found.size() ? found.get(i) : "";
            check.holds("\"" + due.get(i) + "\" is \"" + there + "\"", there.equals(due.get(i)));
        }
    }

    /** Every part of the document has its tests: this one, EdgesOfTermsTests, or EdgesOfPromisesTests. */
    private static void headings(List<String> document) {
        List<String> known = new ArrayList<>(List.of("## What it is", "## The public face", "## Terms"));
        for (int term = 1; term <= 7; term++) known.add("======== " + term);
        for (int promise = 1; promise <= 35; promise++) known.add("## Promise " + promise);
        known.add("## Not promised");
        List<String> found = new ArrayList<>();
        for (String line : document) {
            Matcher heading = Pattern.compile("(======== \\d+|## Promise \\d+|## [^:]*).*").matcher(line);
            if (heading.matches()) found.add(heading.group(1));
        }
        check.holds("the parts of the document: " + found, found.equals(known));
    }
}
