import java.io.IOException;
import java.lang.reflect.Constructor;
import java.lang.reflect.Field;
import java.lang.reflect.Method;
import java.lang.reflect.Modifier;
import java.nio.file.Files;
import java.nio.file.Path;
import java.util.ArrayList;
import java.util.List;
import java.util.Map;
import java.util.Set;
import java.util.TreeMap;
import java.util.TreeSet;
import java.util.regex.Matcher;
import java.util.regex.Pattern;

/** The public face, and the rules of LANGUAGE.md that a program can see. */
public final class FaceTest {
    private static final Due due = new Due();

    private static final Set<String> METHODS = Set.of("int enumeration()", "int constant(int,long,boolean)",
            "int exchange(int,int,int)", "int forget(int,int)", "int fails(int,boolean)", "int family()",
            "int permit(int,boolean,int)", "int record()", "int part(int,long,int,int,long)", "int without(int,int)",
            "int becomes(int,int,int,int)", "int check(int,int,int,long,long)", "int build()", "int row(int,int)",
            "int put(int,int,long)", "long item(int,int)", "int size(int)", "int give(int,long)", "int make(int)",
            "int cause(int)", "long told(int,int)", "int of(int)", "int tag(int,int)", "int same(int,int)",
            "int named(int,long)", "long work(int,int,int,int)", "int started(int)", "int keep(int)", "int load(int)",
            "int line(int,int)", "int word(long,long,int)", "int range(long,int,int,int,int)", "int count(int)",
            "int about(int,int)");

    public static void main(String[] args) throws IOException {
        constants();
        face();
        documentsFace();
        privateNames();
        classes();
        words();
        depthOfCalls();
        due.end();
    }

    private static void constants() {
        due.is("NONE", FamilyFields.NONE, -1);
        due.is("BAD", FamilyFields.BAD, -1);
        due.is("STATE", FamilyFields.STATE, -2);
        due.is("FULL", FamilyFields.FULL, -3);
    }

    private static String shape(Method m) {
        StringBuilder shape = new StringBuilder(m.getReturnType().getName() + " " + m.getName() + "(");
        for (Class<?> each : m.getParameterTypes()) {
            shape.append(shape.charAt(shape.length() - 1) == '(' ? "" : ",").append(each.getName());
        }
        return shape.append(')').toString();
    }

    private static void face() {
        Class<?> type = FamilyFields.class;
        due.holds("the class is public and final", (type.getModifiers() & ~(Modifier.PUBLIC | Modifier.FINAL)) == 0
                && Modifier.isPublic(type.getModifiers()) && Modifier.isFinal(type.getModifiers()));
        due.is("constructors", type.getDeclaredConstructors().length, 1);
        for (Constructor<?> each : type.getConstructors()) due.is("its parameters", each.getParameterCount(), 0);
        Set<String> found = new TreeSet<>();
        for (Method m : type.getDeclaredMethods()) {
            if (Modifier.isPublic(m.getModifiers())) found.add(shape(m));
            else due.holds(m.getName() + " is private", Modifier.isPrivate(m.getModifiers()) || m.isSynthetic());
        }
        due.holds("the methods are " + found, found.equals(METHODS));
        Set<String> fields = new TreeSet<>();
        int own = 0;
        for (Field f : type.getDeclaredFields()) {
            if (Modifier.isPublic(f.getModifiers())) fields.add(f.getName());
            else due.holds(f.getName() + " is private", Modifier.isPrivate(f.getModifiers()));
            if (Modifier.isStatic(f.getModifiers())) due.holds(f.getName() + " is final", Modifier.isFinal(f.getModifiers()));
            else own++;
        }
        due.holds("the constants are " + fields, fields.equals(Set.of("NONE", "BAD", "STATE", "FULL")));
        due.holds("some twenty fields", own <= 20);
    }

    /** "The public face" of the document, and the face that each promise but the first tells, are the methods above. */
    private static void documentsFace() throws IOException {
        Path document = Path.of("../shared/DOC.md");
        if (!Files.exists(document)) return;
        String text = Files.readString(document);
        due.holds("the document's constants", text.contains("public static final int NONE = -1, BAD = -1, STATE = -2, FULL = -3;"));
        due.holds("the document's face", shapes(text, "    public (int|long) (\\w+)\\((.*)\\);").equals(METHODS));
        due.holds("the promises' faces", shapes(text, "`(int|long) (\\w+)\\((.*)\\)`: ").equals(METHODS));
    }

    private static Set<String> shapes(String text, String form) {
        Set<String> found = new TreeSet<>();
        for (String row : text.split("\n")) {
            Matcher m = Pattern.compile(form).matcher(row);
            if (!m.lookingAt()) continue;
            String types = m.group(3).replaceAll(" \\w+(, |$)", ",").replaceAll(",$", "");
            found.add(m.group(1) + " " + m.group(2) + "(" + types + ")");
        }
        return found;
    }

    private static void privateNames() {
        Set<String> names = new TreeSet<>();
        for (String shape : METHODS) names.add(shape.substring(shape.indexOf(' ') + 1, shape.indexOf('(')));
        for (Method m : FamilyFields.class.getDeclaredMethods()) {
            due.holds("private " + m.getName(), Modifier.isPublic(m.getModifiers()) || !names.contains(m.getName()));
        }
        for (Class<?> inside : FamilyFields.class.getDeclaredClasses()) {
            for (Method m : inside.getDeclaredMethods()) {
                due.holds(inside.getName() + " " + m.getName(), !names.contains(m.getName()));
            }
        }
    }

    private static void classes() {
        Class<?>[] inside = FamilyFields.class.getDeclaredClasses();
        due.holds("some twelve classes", inside.length <= 12);
        for (Class<?> each : inside) {
            int bits = each.getModifiers();
            due.holds(each.getName() + " is static", Modifier.isStatic(bits));
            due.holds(each.getName() + " is not public", !Modifier.isPublic(bits) && !Modifier.isProtected(bits));
            for (Method m : each.getDeclaredMethods()) {
                due.holds(m.getName() + " has seven parameters at most", m.getParameterCount() <= 7);
            }
        }
    }

    private static void words() throws IOException {
        String source = Files.readString(Path.of("src/main/java/FamilyFields.java"));
        String code = source.replaceAll("(?s)/\\*.*?\\*/", "").replaceAll("//[^\n]*", "");
        String[] words = {"try", "catch", "throw", "finally", "synchronized", "assert", "Float", "Double", "float", "double",
            "equals", "hashCode", "toString", "package", "instanceof", "HashMap", "stream", "Random", "strictfp", "native"};
        for (String each : words) due.holds("no '" + each + "' in the source", !code.matches("(?s).*\\b" + each + "\\b.*"));
        String[] signs = {"->", "::", "System.out", "Exact(", "static {", "for (;;)", "while (", "\"", "@"};
        for (String each : signs) due.holds("no '" + each + "' in the source", !code.contains(each));
        for (String row : source.split("\n")) {
            boolean fine = !row.startsWith("import ") || row.equals("import java.util.ArrayList;")
                    || row.equals("import java.util.Arrays;");
            due.holds(row, fine);
        }
        methodLengths(source.split("\n"), "    ");
        methodLengths(source.split("\n"), "        ");
    }

    /** Rules 8 and 11: nothing calls itself, by way of others either, and no chain of calls is deeper than eight. */
    private static void depthOfCalls() throws IOException {
        String source = Files.readString(Path.of("src/main/java/FamilyFields.java"));
        String code = source.replaceAll("(?s)/\\*.*?\\*/", "").replaceAll("//[^\n]*", "");
        Map<String, Set<String>> called = new TreeMap<>();
        Pattern method = Pattern.compile("(?m)^( {4}| {8})(?:\\w+(?:\\[\\])? )*(\\w+)\\([^)]*\\) \\{\n((?:\\1 .*\n|\n)*)\\1\\}");
        for (Matcher m = method.matcher(code); m.find();) {
            due.holds("one method has the name " + m.group(2), called.put(m.group(2), namesCalled(m.group(3))) == null);
        }
        due.holds("the methods were found", called.keySet().containsAll(List.of("load", "loadInOrder", "nearestEven", "Part")));
        for (Set<String> each : called.values()) each.retainAll(called.keySet());
        for (String name : called.keySet()) deepen(name, called, new ArrayList<>());
    }

    /** A list's size() is not that of the face. */
    private static Set<String> namesCalled(String body) {
        Set<String> names = new TreeSet<>();
        Matcher m = Pattern.compile("(\\w+)\\(").matcher(body.replace(".size()", ""));
        while (m.find()) names.add(m.group(1));
        return names;
    }

    private static void deepen(String name, Map<String, Set<String>> called, List<String> above) {
        boolean fine = !above.contains(name) && above.size() < 8;
        if (!fine) due.holds("calls from " + above + " to " + name, false);
        if (!fine) return;
        above.add(name);
        for (String each : called.get(name)) deepen(each, called, above);
        above.remove(above.size() - 1);
    }

    private static void methodLengths(String[] rows, String indent) {
        int start = 0;
        for (int i = 0; i < rows.length; i++) {
            boolean opens = rows[i].startsWith(indent) && !rows[i].startsWith(indent + " ") && rows[i].endsWith(") {");
            if (opens) start = i;
            if (rows[i].equals(indent + "}") && rows[start].endsWith(") {")) {
                due.holds("sixty lines at most: " + rows[start], i - start <= 60);
                start = i;
            }
        }
    }
}
