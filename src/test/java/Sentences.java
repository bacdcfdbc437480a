import java.io.IOException;
import java.nio.file.Files;
import java.nio.file.Path;
import java.util.LinkedHashMap;
import java.util.Map;

/**
 * Tests by the document's own words: each test names a section and quotes the words that it holds. At the end every
 * word of the sections that a test is for must have been quoted, so that no sentence is left without a test.
 */
final class Sentences {
    interface Test {
        void run();
    }

    private static final Path DOCUMENT = Path.of("../shared/DOC.md");

    private final Map<String, String> texts = new LinkedHashMap<>();
    private final Map<String, boolean[]> quoted = new LinkedHashMap<>();
    private final boolean documentIsHere = Files.exists(DOCUMENT);
    private String sentence = "";
    private int sentences;
    private int asked;
    private int wrong;

    /** For sections of "Terms" by their headings ("2 OBJECTS"), and promises by theirs ("Promise 14"). */
    Sentences(String... sections) {
        String document = documentIsHere ? read() : "";
        for (String each : sections) {
            String text = each.startsWith("Promise") ? promise(document, each) : term(document, each);
            texts.put(each, text);
            quoted.put(each, new boolean[text.length()]);
        }
    }

    private static String read() {
        try {
            return Files.readString(DOCUMENT);
        } catch (IOException e) {
            throw new IllegalStateException(e);
        }
    }

    private static String promise(String document, String heading) {
        String text = between(document, "## " + heading + ":", "\n## ");
        // What stands ahead of the first "`:" is the title and the call's face.
        return plain(text.substring(text.indexOf("`:") + 2));
    }

    private static String term(String document, String heading) {
        String terms = between(document, "## Terms", "Ahead of the calls");
        if (heading.equals("1 TYPES")) return plain(between(terms, "", "======== 2"));
        return plain(between(terms, "======== " + heading, "======== 3"));
    }

    private static String between(String text, String from, String to) {
        int start = text.indexOf(from);
        if (start < 0) return "";
        start += from.length();
        int end = text.indexOf(to, start);
        return end < 0 ? text.substring(start) : text.substring(start, end);
    }

    private static String plain(String text) {
        return text.replace("```text", " ").replace("```", " ").replaceAll("\\s+", " ").trim();
    }

    /** Runs the test of some words of a section. */
    void hold(String section, String words, Test test) {
        sentence = section + ", \"" + words + "\"";
        sentences++;
        quote(section, words);
        int before = asked;
        try {
            test.run();
        } catch (RuntimeException thrown) {
            fail("threw " + thrown);
        }
        if (asked == before) fail("has no test");
    }

    private void quote(String section, String words) {
        if (!documentIsHere) return;
        String text = texts.getOrDefault(section, "");
        int at = text.indexOf(words);
        if (at < 0) fail("is not in the document");
        else if (text.indexOf(words, at + 1) >= 0) fail("stands there more than once");
        else for (int i = at; i < at + words.length(); i++) quoted.get(section)[i] = true;
    }

    void is(String call, long got, long want) {
        asked++;
        if (got != want) fail(call + " answered " + got + ", due is " + want);
    }

    /** Several answers that are due alike, as of calls with numbers too small and too large. */
    void all(String calls, long want, long... got) {
        for (int i = 0; i < got.length; i++) is(calls + ", number " + i + " of these,", got[i], want);
    }

    private void fail(String what) {
        wrong++;
        System.out.println(sentence + ": " + what);
    }

    void end() {
        for (Map.Entry<String, String> each : texts.entrySet()) {
            sentence = each.getKey();
            if (documentIsHere && each.getValue().isEmpty()) fail("is not in the document");
            tellUnquoted(each.getValue(), quoted.get(each.getKey()));
        }
        if (!documentIsHere) System.out.println(DOCUMENT + " is not here: the quotes were not looked up");
        System.out.println(sentences + " sentences, " + asked + " answers, " + wrong + " not as due");
        if (wrong != 0 || asked == 0) System.exit(1);
    }

    private void tellUnquoted(String text, boolean[] marks) {
        StringBuilder left = new StringBuilder();
        for (int i = 0; i < text.length(); i++) {
            if (!marks[i]) left.append(text.charAt(i));
            if (marks[i] || i == text.length() - 1) {
                if (left.toString().matches(".*\\w.*")) fail("no test of \"" + left + "\"");
                left.setLength(0);
            }
        }
    }

    // ---- what many tests begin with

    /** An enumeration more, with a constant for each letter; a capital one is bodied, with the small one as its name. */
    static int enumeration(FamilyFields x, String letters) {
        int e = x.enumeration();
        for (char c : letters.toCharArray()) x.constant(e, Character.toLowerCase(c), Character.isUpperCase(c));
        return e;
    }

    /** A record more, with parts named a, b, .. of some sorts, each of number 0 of what it is of. */
    static int record(FamilyFields x, int... sorts) {
        int r = x.record();
        for (int i = 0; i < sorts.length; i++) x.part(r, 'a' + i, sorts[i], 0, 0);
        return r;
    }

    /** A family more, of some records. */
    static int family(FamilyFields x, int... records) {
        int f = x.family();
        for (int r : records) x.permit(f, false, r);
        return f;
    }

    static int make(FamilyFields x, int record, long... draft) {
        for (int i = 0; i < draft.length; i++) x.give(i, draft[i]);
        return x.make(record);
    }

    /** One object of a new record without parts: types may not change any more. */
    static void makeOne(FamilyFields x) {
        x.make(x.record());
    }
}
