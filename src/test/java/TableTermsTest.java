/** "Terms", section 3 THE TABLE, by its own words: keeping, loading, builds, and in which order calls answer. */
public final class TableTermsTest {
    private static final Sentences s = new Sentences("3 THE TABLE");
    private static final String SECTION = "3 THE TABLE";

    public static void main(String[] args) {
        keeping();
        whatIsKept();
        loading();
        sortsThatGo();
        constantsNow();
        rowsAndObjectsNow();
        aheadOfTheStart();
        builds();
        answers();
        s.end();
    }

    /** Record 0 with parts a and b of its own family, and an int c. */
    private static FamilyFields pairs() {
        FamilyFields x = new FamilyFields();
        x.record();
        x.family();
        x.permit(0, false, 0);
        x.part(0, 'a', 11, 0, 0);
        x.part(0, 'b', 11, 0, 0);
        x.part(0, 'c', 4, 0, 0);
        return x;
    }

    private static void cause(FamilyFields x, int... cause) {
        for (int i = 0; i < cause.length; i++) s.is("cause(" + i + ")", x.cause(i), cause[i]);
    }

    private static void keeping() {
        s.hold(SECTION, "has LINES, 64 at most, from 0 on.", () -> {
            FamilyFields x = new FamilyFields();
            x.record();
            for (int i = 0; i < 64; i++) s.is("keep", x.keep(x.make(0)), i);
            s.is("the next object", x.make(0), 64);
            s.is("has no room", x.keep(64), -3);
            s.is("lines", x.count(5), 64);
            x.build();
            s.is("nor in another build", x.keep(x.make(0)), -3);
        });
        s.hold(SECTION, "To KEEP an OBJECT (once in a BUILD; then it has its LINE):", () -> {
            FamilyFields x = pairs();
            Sentences.make(x, 0, -1, -1, 0);
            Sentences.make(x, 0, -1, -1, 0);
            s.is("the second", x.keep(1), 0);
            s.is("the first", x.keep(0), 1);
            s.is("the second again", x.keep(1), 0);
            s.is("the first again", x.keep(0), 1);
            s.is("lines", x.count(5), 2);
            x.build();
            Sentences.make(x, 0, -1, -1, 0);
            s.is("in another build it is another one", x.keep(0), 2);
            s.is("a loaded one was not kept yet", x.keep(x.load(0)), 3);
        });
        s.hold(SECTION, "first the OBJECTS of its PARTS, in order, likewise;", () -> {
            FamilyFields x = pairs();
            long[][] drafts = {{-1, -1, 0}, {-1, -1, 1}, {1, 0, 2}, {-1, 1, 3}, {3, 2, 4}, {4, 4, 5}};
            for (long[] draft : drafts) Sentences.make(x, 0, draft);
            s.is("keep(5)", x.keep(5), 5);
            // 5 wants 4, that 3 and 2, those 1 and 0: 1, 3, 0, 2, 4, 5
            int[] lines = {2, 0, 3, 1, 4, 5};
            for (int i = 0; i < 6; i++) s.is("keep(" + i + ")", x.keep(i), lines[i]);
            s.is("each once", x.count(5), 6);
            FamilyFields y = chain(64);
            s.is("64 deep", y.keep(63), 63);
            s.is("the deepest is the first", y.keep(0), 0);
        });
    }

    /** Objects of a record, each but the first with the one before it as its part. */
    private static FamilyFields chain(int n) {
        FamilyFields x = pairs();
        for (int i = 0; i < n; i++) Sentences.make(x, 0, i - 1, -1, i);
        return x;
    }

    private static void whatIsKept() {
        s.hold(SECTION, "then it is the next LINE: the RECORD, the BUILD, and of each PART NAME, SORT, ENUMERATION or LANE, and: "
                + "of 0 to 7 what it is;", () -> {
            FamilyFields x = new FamilyFields();
            for (int i = 0; i < 3; i++) x.build();
            x.record();
            Sentences.record(x, 0, 1, 2, 3, 4, 5);
            Sentences.record(x, 6, 7);
            long[] ends = {1, -128, -32768, 65535, Integer.MIN_VALUE, Long.MIN_VALUE};
            x.keep(Sentences.make(x, 1, ends));
            x.keep(Sentences.make(x, 2, 0x80000000L, -1));
            x.keep(x.make(0));
            s.is("record of line 0", x.line(0, 0), 1);
            s.is("record of line 1", x.line(1, 0), 2);
            s.is("build", x.line(0, 1), 3);
            s.is("parts of line 0", x.line(0, 2), 6);
            s.is("parts of line 2", x.line(2, 2), 0);
            x.build();
            int object = x.load(0);
            for (int p = 0; p < 6; p++) s.is("part " + p, x.told(object, p), ends[p]);
            object = x.load(1);
            s.is("a float", x.told(object, 0), Integer.MIN_VALUE);
            s.is("a double", x.told(object, 1), 0x7ff8000000000000L);
            s.is("build still", x.line(0, 1), 3);
        });
        s.hold(SECTION, "CONSTANTS by their NAMES;", () -> {
            FamilyFields x = new FamilyFields();
            Sentences.enumeration(x, "abcdefgh");
            Sentences.record(x, 8, 9, 9);
            x.keep(Sentences.make(x, 0, 7, 0x81, 0));
            x.build();
            x.exchange(0, 0, 7);
            x.load(0);
            s.is("h is the first now", x.told(0, 0), 0);
            s.is("a set of both ends", x.told(0, 1), 0x81);
            x.build();
            x.exchange(0, 7, 3);
            x.load(0);
            s.is("a is at 3 now", x.told(0, 1), 0x9);
            s.is("a set of none", x.told(0, 2), 0);
        });
        s.hold(SECTION, "of a ROW its ITEMS as they are then;", () -> {
            FamilyFields x = new FamilyFields();
            x.record();
            x.part(0, 'a', 10, 2, 0);
            x.row(2, 16);
            x.row(2, 0);
            x.put(0, 15, 7);
            Sentences.make(x, 0, 0);
            Sentences.make(x, 0, 1);
            Sentences.make(x, 0, -1);
            x.put(0, 15, 8);
            for (int i = 0; i < 3; i++) x.keep(i);
            x.put(0, 15, 9);
            x.build();
            for (int i = 0; i < 3; i++) x.load(i);
            s.is("as it was kept, not made, nor later", x.item((int) x.told(0, 0), 15), 8);
            s.is("16 items", x.size((int) x.told(0, 0)), 16);
            s.is("no items", x.size((int) x.told(1, 0)), 0);
            s.is("no row", x.told(2, 0), -1);
        });
        s.hold(SECTION, "of an OBJECT its LINE.", () -> {
            FamilyFields x = pairs();
            Sentences.make(x, 0, -1, -1, 0);
            Sentences.make(x, 0, -1, -1, 1);
            x.keep(Sentences.make(x, 0, 1, 1, 2));
            x.keep(Sentences.make(x, 0, 0, -1, 3));
            x.build();
            s.is("its part first", x.load(3), 1);
            s.is("the part of line 2", x.told(0, 2), 0);
            s.is("none", x.told(1, 1), -1);
            s.is("the other", x.load(1), 3);
            s.is("both parts are one line", x.told(x.line(1, 3), 0), x.told(x.line(1, 3), 1));
        });
    }

    private static void loading() {
        s.hold(SECTION, "To LOAD a LINE (once in a BUILD; then it is that OBJECT):", () -> {
            FamilyFields x = pairs();
            x.keep(Sentences.make(x, 0, -1, -1, 5));
            s.is("in the build that kept it, a new object", x.load(0), 1);
            s.is("again", x.load(0), 1);
            s.is("objects", x.count(4), 2);
            x.build();
            s.is("in another one", x.load(0), 0);
            s.is("again", x.load(0), 0);
            s.is("objects", x.count(4), 1);
            s.is("no more than once as a part's", Sentences.make(x, 0, 0, -1, 6), 1);
            s.all("no lines", -1, x.load(-1), x.load(1), x.load(64), x.load(Integer.MIN_VALUE), x.load(Integer.MAX_VALUE));
        });
        s.hold(SECTION, "an OBJECT of its RECORD is MADE, as the RECORD is now, each PART, in order, by what was kept of its NAME;", () -> {
            FamilyFields x = new FamilyFields();
            Sentences.record(x, 4, 4, 4);
            x.keep(Sentences.make(x, 0, 1, 2, 3));
            x.build();
            x.without(0, 0);
            x.part(0, 'a', 5, 0, 9);
            x.check(0, 2, 0, 1, 1);
            s.is("load", x.load(0), 0);
            long[] parts = {2, 3, 1};
            for (int p = 0; p < 3; p++) s.is("part " + p, x.told(0, p), parts[p]);
            x.build();
            x.check(0, 1, 0, 4, 4);
            s.is("its checks now", x.load(0), -11);
            cause(x, 1, 0, 1, 1, 0);
            x.without(0, 2);
            x.without(0, 1);
            x.without(0, 0);
            s.is("of no parts", x.load(0), 0);
            s.is("none", x.told(0, 0), Long.MIN_VALUE);
        });
        s.hold(SECTION, "STANDARD, if nothing was;", () -> {
            FamilyFields x = new FamilyFields();
            Sentences.record(x, 4);
            x.keep(Sentences.make(x, 0, 1));
            x.build();
            x.part(0, 'b', 1, 0, 200);
            x.part(0, 'c', 10, 0, 0);
            s.is("load", x.load(0), 0);
            s.is("part a", x.told(0, 0), 1);
            s.is("part b", x.told(0, 1), -56);
            s.is("part c", x.told(0, 2), -1);
            x.build();
            x.becomes(0, 1, 2, 0);
            x.check(0, 1, 2, 0, 0);
            s.is("0 since it became another one", x.load(0), -13);
        });
        s.hold(SECTION, "6 CAST, if it is of SORTS that do not go:", () -> {
            FamilyFields x = new FamilyFields();
            Sentences.record(x, 4, 4);
            x.keep(Sentences.make(x, 0, 1, 2));
            x.build();
            x.becomes(0, 1, 2, 0);
            s.is("an int is no short", x.load(0), -16);
            cause(x, 6, 0, 1, -1, 0);
            s.is("not loaded", x.line(0, 3), -1);
            x.becomes(0, 0, 0, 0);
            s.is("the first part is looked at first", x.load(0), -16);
            cause(x, 6, 0, 0, -1, 0);
            FamilyFields y = pairs();
            Sentences.make(y, 0, -1, -1, 0);
            y.keep(Sentences.make(y, 0, 0, -1, 0));
            y.build();
            y.becomes(0, 0, 4, 0);
            s.is("an object is no int", y.load(1), -16);
            cause(y, 6, 0, 0, -1, 1);
            s.is("and is not loaded", y.line(0, 3), -1);
            y.becomes(0, 0, 11, 0);
            y.becomes(0, 2, 11, 0);
            s.is("an int is no object, in the part's object first", y.load(1), -16);
            cause(y, 6, 0, 2, -1, 0);
        });
    }

    /** What load() answers where a part of 0 (or none) was kept as one sort and is another one now. */
    private static int goes(int from, int of, int to, int ofNow) {
        FamilyFields x = new FamilyFields();
        x.enumeration();
        x.enumeration();
        x.family();
        x.family();
        x.record();
        x.part(0, 'a', from, of, 0);
        x.keep(Sentences.make(x, 0, from == 8 || from > 9 ? -1 : 0));
        x.build();
        x.becomes(0, 0, to, ofNow);
        return x.load(0);
    }

    /** What a part of bits is that was kept as one sort and is another one now. */
    private static long widened(int from, int to, long bits) {
        FamilyFields x = new FamilyFields();
        Sentences.record(x, from);
        x.keep(Sentences.make(x, 0, bits));
        x.build();
        x.becomes(0, 0, to, 0);
        return x.told(x.load(0), 0);
    }

    private static void sortsThatGo() {
        s.hold(SECTION, "they go, if they are the same (8, 9: of one ENUMERATION; 10: of one LANE);", () -> {
            for (int sort = 0; sort <= 11; sort++) s.is("sort " + sort, goes(sort, 0, sort, 0), 0);
            s.all("of another enumeration, lane", -16, goes(8, 0, 8, 1), goes(9, 0, 9, 1), goes(9, 1, 9, 0), goes(10, 0, 10, 1), goes(10, 7, 10, 6));
            s.is("of another family", goes(11, 0, 11, 1), 0);
            s.is("numbers are of nothing", goes(4, 0, 4, 1), 0);
        });
        s.hold(SECTION, "1 to 2, 4, 5, 6, 7; 2 to 4, 5, 6, 7; 3 to 4, 5, 6, 7; 4 to 5, 6, 7; 5 to 6, 7; 6 to 7 (as the machine widens);", () -> {
            String[] go = {"", "24567", "4567", "4567", "567", "67", "7", "", "9", "", "", ""};
            for (int from = 0; from <= 11; from++) {
                for (int to = 0; to <= 11; to++) {
                    boolean does = from == to || to < 10 && go[from].indexOf('0' + to) >= 0;
                    s.is("sort " + from + " to " + to, goes(from, 0, to, 0), does ? 0 : -16);
                }
            }
            s.all("the least byte", -128, widened(1, 2, -128), widened(1, 4, 128), widened(1, 5, 128));
            s.is("the least int as a float", widened(4, 6, Integer.MIN_VALUE), Float.floatToRawIntBits(Integer.MIN_VALUE));
            s.is("the most int as a float", widened(4, 6, Integer.MAX_VALUE), Float.floatToRawIntBits(Integer.MAX_VALUE));
            s.is("a half goes to the even one", widened(4, 6, 16777217), Float.floatToRawIntBits(16777216f));
            s.is("up, too", widened(4, 6, 16777219), Float.floatToRawIntBits(16777220f));
            s.is("the least long as a float", widened(5, 6, Long.MIN_VALUE), Float.floatToRawIntBits(Long.MIN_VALUE));
            s.is("the most long as a float", widened(5, 6, Long.MAX_VALUE), Float.floatToRawIntBits(Long.MAX_VALUE));
            s.is("the least long as a double", widened(5, 7, Long.MIN_VALUE), Double.doubleToRawLongBits(Long.MIN_VALUE));
            s.is("the most long as a double", widened(5, 7, Long.MAX_VALUE), Double.doubleToRawLongBits(Long.MAX_VALUE));
            s.is("the last char as a double", widened(3, 7, -1), Double.doubleToRawLongBits(65535));
            s.is("-1 as a float", widened(1, 6, -1), Float.floatToRawIntBits(-1f));
            s.is("-1 as a double", widened(4, 7, -1), Double.doubleToRawLongBits(-1.0));
            s.all("0 has no sign", 0, widened(4, 7, 0), widened(4, 6, 0), widened(6, 7, 0));
            // From 2^25 on a float drops two bits: below the half, the half, above it, and the half with an odd one.
            for (int i = 0; i <= 8; i++) s.is("2^25 and " + i, widened(4, 6, (1 << 25) + i), Float.floatToRawIntBits((1 << 25) + i));
            for (int i = 0; i <= 8; i++) s.is("2^55 and " + i, widened(5, 7, (1L << 55) + i), Double.doubleToRawLongBits((1L << 55) + i));
            for (int i : new int[] {1 << 23, (1 << 23) + 1, (1 << 24) - 1}) s.is("the last without rounding", widened(4, 6, i), Float.floatToRawIntBits(i));
            for (long i : new long[] {1L << 52, (1L << 52) + 1, (1L << 53) - 1}) s.is("the last without rounding", widened(5, 7, i), Double.doubleToRawLongBits(i));
            s.is("rounding that carries", widened(5, 7, (1L << 60) - 1), Double.doubleToRawLongBits(0x1p60));
            s.is("the least float above 0", widened(6, 7, 1), Double.doubleToRawLongBits(Float.MIN_VALUE));
            s.is("0 with a sign", widened(6, 7, 0x80000000L), Long.MIN_VALUE);
            s.is("the infinite float", widened(6, 7, 0x7f800000), 0x7ff0000000000000L);
            s.is("that below 0", widened(6, 7, 0xff800000L), 0xfff0000000000000L);
            s.is("what is no number", widened(6, 7, 0xff800001L), 0x7ff8000000000000L);
            s.is("the largest float", widened(6, 7, 0x7f7fffff), Double.doubleToRawLongBits(Float.MAX_VALUE));
            s.is("the largest that is written without its one", widened(6, 7, 0x007fffff), Double.doubleToRawLongBits(Float.intBitsToFloat(0x007fffff)));
        });
        s.hold(SECTION, "8 to 9 of one ENUMERATION (a SET of that, of none without).", () -> {
            s.is("of one", goes(8, 1, 9, 1), 0);
            s.all("of another one", -16, goes(8, 0, 9, 1), goes(8, 1, 9, 0));
            s.is("not back", goes(9, 0, 8, 0), -16);
            FamilyFields x = new FamilyFields();
            Sentences.enumeration(x, "abcdefgh");
            Sentences.record(x, 8);
            x.keep(Sentences.make(x, 0, 7));
            x.keep(Sentences.make(x, 0, 0));
            x.keep(Sentences.make(x, 0, -1));
            x.build();
            x.becomes(0, 0, 9, 0);
            long[] sets = {128, 1, 0};
            for (int i = 0; i < 3; i++) s.is("line " + i, x.told(x.load(i), 0), sets[i]);
            s.is("nothing was left out", x.count(7), 0);
        });
    }

    private static void constantsNow() {
        s.hold(SECTION, "A CONSTANT is that of its NAME now: 8 UNKNOWN, if there is none;", () -> {
            FamilyFields x = new FamilyFields();
            Sentences.enumeration(x, "abC");
            Sentences.record(x, 4, 8);
            for (int i = -1; i < 3; i++) x.keep(Sentences.make(x, 0, 0, i));
            x.build();
            x.forget(0, 0);
            s.is("none stays none", x.told(x.load(0), 1), -1);
            s.is("a is unknown", x.load(1), -18);
            cause(x, 8, 0, 1, -1, 1);
            s.is("b is the first now", x.told(x.load(2), 1), 0);
            s.is("c is the second now", x.told(x.load(3), 1), 1);
            s.is("none was left out for that", x.count(7), 0);
            x.build();
            x.constant(0, 'a', true);
            s.is("a is known again", x.told(x.load(1), 1), 2);
        });
        s.hold(SECTION, "of a SET (also of one that was kept as a CONSTANT) those that are unknown are LEFT OUT, and counted.", () -> {
            FamilyFields x = new FamilyFields();
            Sentences.enumeration(x, "abcdefgh");
            Sentences.record(x, 9, 8);
            x.keep(Sentences.make(x, 0, 255, 0));
            x.keep(Sentences.make(x, 0, 0, -1));
            x.build();
            x.becomes(0, 1, 9, 0);
            x.forget(0, 0);
            s.is("load", x.load(0), 0);
            s.is("seven are left", x.told(0, 0), 127);
            s.is("a set of none", x.told(0, 1), 0);
            s.is("two", x.count(7), 2);
            x.load(1);
            s.is("none more", x.count(7), 2);
            x.load(0);
            s.is("nor by a line that is loaded", x.count(7), 2);
            x.build();
            for (int i = 7; i > 0; i--) x.forget(0, 0);
            x.load(0);
            s.is("all", x.told(0, 0), 0);
            s.is("nine more", x.count(7), 11);
        });
    }

    private static void rowsAndObjectsNow() {
        s.hold(SECTION, "Of a ROW a new one is made, with the ITEMS (once in a BUILD).", () -> {
            FamilyFields x = new FamilyFields();
            x.record();
            x.part(0, 'a', 10, 4, 0);
            x.part(0, 'b', 10, 4, 0);
            x.row(4, 16);
            for (int i = 0; i < 16; i++) x.put(0, i, i + 1);
            x.keep(Sentences.make(x, 0, 0, 0));
            s.is("in this build, too", x.load(0), 1);
            s.is("one for each part", x.count(3), 3);
            x.build();
            x.row(4, 1);
            x.load(0);
            s.is("behind the others", x.told(0, 0), 1);
            s.is("one for each part", x.told(0, 1), 2);
            for (int i = 0; i < 16; i++) s.is("item " + i, x.item(2, i), i + 1);
            x.build();
            x.check(0, 1, 4, 16, 0);
            s.is("INDEX", x.load(0), -15);
            x.put(1, 0, 99);
            x.without(0, 1);
            s.is("load", x.load(0), 0);
            s.is("the row of the try before", x.told(0, 0), 0);
            s.is("made once", x.count(3), 2);
            x.build();
            for (int i = 0; i < 40; i++) x.row(4, 0);
            s.is("though 40 were made by row()", x.load(0), 0);
            s.is("it is the next", x.told(0, 0), 40);
        });
        s.hold(SECTION, "The OBJECT of a PART is LOADED: if that fails, all fails with THE CAUSE of that;", () -> {
            FamilyFields x = pairs();
            Sentences.make(x, 0, -1, -1, 0);
            Sentences.make(x, 0, -1, -1, 1);
            x.keep(Sentences.make(x, 0, 1, 0, 2));
            x.build();
            x.check(0, 2, 0, 0, 1);
            s.is("itself fails", x.load(2), -11);
            cause(x, 1, 0, 2, 0, 2);
            x.build();
            x.becomes(0, 2, 4, 0);
            x.check(0, 2, 0, 1, 2);
            s.is("the second part's object fails", x.load(2), -11);
            cause(x, 1, 0, 2, 0, 1);
            s.is("the first part's is loaded", x.line(0, 3), 0);
            x.build();
            x.becomes(0, 2, 4, 0);
            x.check(0, 2, 2, 0, 0);
            x.check(0, 2, 0, 2, 2);
            s.is("the first part's fails", x.load(2), -11);
            cause(x, 1, 0, 2, 1, 0);
            s.is("no object", x.count(4), 0);
            FamilyFields y = chain(64);
            y.keep(63);
            y.build();
            y.check(0, 2, 2, 0, 0);
            s.is("64 deep", y.load(63), -13);
            cause(y, 3, 0, 2, 0, 0);
            y.becomes(0, 2, 5, 0);
            for (char c = 'd'; c < 'g'; c++) y.part(0, c, 4, 0, c);
            s.is("64 deep, with six parts each", y.load(63), 63);
            s.is("its part", y.told(63, 0), 62);
            s.is("its last part", y.told(63, 5), 'f');
        });
        s.hold(SECTION, "6 CAST, if it is none of the PART's FAMILY now.", () -> {
            FamilyFields x = new FamilyFields();
            x.record();
            x.record();
            Sentences.family(x, 0);
            Sentences.family(x, 1);
            Sentences.record(x, 4, 11);
            x.make(0);
            x.keep(Sentences.make(x, 2, 0, 0));
            x.keep(Sentences.make(x, 2, 0, -1));
            x.build();
            x.becomes(2, 1, 11, 1);
            s.is("none of the family", x.load(1), -16);
            cause(x, 6, 2, 1, -1, 1);
            s.is("it is loaded", x.line(0, 3), 0);
            s.is("none is fine", x.load(2), 1);
            x.build();
            x.permit(1, false, 0);
            s.is("one of the family now", x.load(1), 1);
        });
    }

    private static void aheadOfTheStart() {
        s.hold(SECTION, "All this is ahead of the START of the RECORD;", () -> {
            FamilyFields x = new FamilyFields();
            Sentences.enumeration(x, "a");
            x.record();
            Sentences.family(x, 0);
            Sentences.record(x, 11, 8);
            x.make(0);
            x.keep(Sentences.make(x, 1, 0, 0));
            x.build();
            x.becomes(1, 1, 4, 0);
            s.is("CAST", x.load(1), -16);
            s.is("the part's record", x.started(0), 0);
            s.is("not its own", x.started(1), -1);
            x.build();
            x.becomes(1, 1, 8, 0);
            x.load(1);
            int[] order = {0, 1, 10, -1};
            for (int i = 0; i < 4; i++) s.is("started(" + i + ")", x.started(i), order[i]);
            x.build();
            x.forget(0, 0);
            s.is("UNKNOWN", x.load(1), -18);
            s.is("not its own", x.started(1), -1);
        });
        s.hold(SECTION, "what was LOADED, made, counted on the way stays.", () -> {
            FamilyFields x = new FamilyFields();
            Sentences.enumeration(x, "ab");
            x.record();
            Sentences.family(x, 0);
            x.record();
            x.part(1, 'a', 11, 0, 0);
            x.part(1, 'b', 10, 4, 0);
            x.part(1, 'c', 9, 0, 0);
            x.part(1, 'd', 4, 0, 0);
            x.row(4, 3);
            x.make(0);
            x.keep(Sentences.make(x, 1, 0, 0, 3, 0));
            x.build();
            x.forget(0, 0);
            x.becomes(1, 3, 3, 0);
            s.is("the last part fails", x.load(1), -16);
            s.is("the object is loaded", x.line(0, 3), 0);
            s.is("and is there", x.count(4), 1);
            s.is("the row is made", x.size(0), 3);
            s.is("the constant is counted", x.count(7), 1);
            s.is("again", x.load(1), -16);
            s.is("objects", x.count(4), 1);
            s.is("rows", x.count(3), 1);
            s.is("left out, by each try", x.count(7), 2);
            partsOfParts();
        });
    }

    /** A part's object that failed, or was loaded in another build, is loaded from its first part on. */
    private static void partsOfParts() {
        FamilyFields x = new FamilyFields();
        Sentences.enumeration(x, "ab");
        Sentences.record(x, 9, 10, 4);
        Sentences.family(x, 0);
        Sentences.record(x, 11);
        x.row(0, 1);
        Sentences.make(x, 0, 3, 0, 1);
        x.keep(Sentences.make(x, 1, 0));
        x.build();
        x.forget(0, 0);
        x.becomes(0, 2, 3, 0);
        s.all("the part's object fails", -16, x.load(1), x.load(1));
        s.is("left out, by each try", x.count(7), 2);
        x.becomes(0, 2, 5, 0);
        s.is("load", x.load(1), 1);
        s.is("left out", x.count(7), 3);
        s.is("its set", x.told(0, 0), 1);
        x.build();
        x.constant(0, 'a', false);
        x.row(0, 1);
        s.is("load", x.load(1), 1);
        s.is("its set in another build", x.told(0, 0), 3);
        s.is("its row", x.told(0, 1), 1);
        s.is("left out", x.count(7), 3);
    }

    private static void builds() {
        s.hold(SECTION, "BUILD: OBJECTS and ROWS go, nothing has STARTED; LINES stay.", () -> {
            FamilyFields x = new FamilyFields();
            Sentences.enumeration(x, "a");
            Sentences.record(x, 8);
            x.row(0, 1);
            x.keep(Sentences.make(x, 0, 0));
            s.is("build()", x.build(), 1);
            s.all("objects, rows", 0, x.count(4), x.count(3));
            s.all("none", -1, x.of(0), x.size(0), x.started(0), x.keep(0), x.tag(0, 0), x.same(0, 0));
            s.is("told", x.told(0, 0), Long.MIN_VALUE);
            s.is("put", x.put(0, 0, 1), -1);
            s.is("lines", x.count(5), 1);
            s.is("types stay", x.about(0, 1), 1);
            s.is("and may change", x.constant(0, 'b', false), 1);
            s.is("load", x.load(0), 0);
        });
        s.hold(SECTION, "BUILDS are numbered from 0 on.", () -> {
            FamilyFields x = new FamilyFields();
            for (int b = 0; b < 200; b++) {
                s.is("the build", x.count(6), b);
                x.build();
            }
        });
    }

    private static void answers() {
        s.hold(SECTION, "Calls answer, the first of these that fits: BAD -1 (a number is not as told, there is no such thing), "
                + "STATE -2 (there are OBJECTS), FULL -3; -10 less a code.", () -> {
            FamilyFields x = full();
            s.all("BAD ahead of STATE, FULL", -1, x.constant(0, 'a', false), x.permit(0, false, 3), x.part(0, 'a', 4, 0, 0),
                    x.check(0, 9, 0, 0, 0), x.exchange(0, 0, 8), x.forget(0, 8), x.fails(4, true), x.without(0, 6),
                    x.becomes(0, 0, 12, 0));
            s.all("STATE ahead of FULL", -2, x.enumeration(), x.constant(0, 'i', false), x.family(), x.permit(0, false, 4),
                    x.record(), x.part(0, 'g', 4, 0, 0), x.check(0, 0, 0, 0, 0));
            s.all("STATE", -2, x.exchange(0, 0, 1), x.forget(0, 0), x.fails(0, true), x.without(0, 0), x.becomes(0, 0, 4, 0));
            x.build();
            s.all("FULL", -3, x.enumeration(), x.constant(0, 'i', false), x.family(), x.permit(0, false, 4), x.record(),
                    x.part(0, 'g', 4, 0, 0), x.check(0, 0, 0, 0, 0));
            for (int i = 0; i < 40; i++) x.row(0, 0);
            s.is("BAD ahead of FULL and a code, row", x.row(8, -1), -1);
            s.is("FULL ahead of a code, row", x.row(0, -1), -3);
            for (int i = 0; i < 100; i++) x.make(1);
            s.is("BAD ahead of FULL, make", x.make(6), -1);
            s.is("FULL ahead of a code, make", x.make(0), -3);
            x.build();
            s.is("a code", x.make(0), -13);
        });
        s.hold(SECTION, "They change nothing, but as told.", () -> {
            FamilyFields x = full();
            s.all("refused", -2, x.forget(0, 0), x.fails(0, true), x.without(0, 0), x.becomes(0, 0, 0, 0));
            x.build();
            s.is("constants", x.about(0, 0), 8);
            s.is("not told to fail", x.named(0, 'a'), 0);
            s.is("parts", x.about(0, 1), 6);
            s.is("checks", x.about(0, 2), 4);
            s.is("the sort", x.becomes(0, 0, 4, 0), 4);
        });
    }

    /** As many types as there may be, number 0 of each as full as it may be, and an object of record 1. */
    private static FamilyFields full() {
        FamilyFields x = new FamilyFields();
        Sentences.enumeration(x, "abcdefgh");
        for (int e = 1; e < 4; e++) x.enumeration();
        Sentences.record(x, 4, 4, 4, 4, 4, 4);
        for (int r = 1; r < 6; r++) x.record();
        for (int c = 0; c < 4; c++) x.check(0, 0, 2, 0, 0);
        Sentences.family(x, 0, 1, 2, 3);
        x.family();
        x.family();
        x.make(1);
        return x;
    }
}
