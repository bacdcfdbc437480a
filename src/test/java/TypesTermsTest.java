/** "Terms", section 1 TYPES, by its own words: names, how many there are of each type, sorts, bits and checks. */
public final class TypesTermsTest {
    private static final Sentences s = new Sentences("1 TYPES");
    private static final String SECTION = "1 TYPES";
    private static final long LEAST = Long.MIN_VALUE, MOST = Long.MAX_VALUE;

    public static void main(String[] args) {
        names();
        howMany();
        leaves();
        sorts();
        bitsOfSorts();
        sortsFromBits();
        standards();
        checksOfNumbers();
        checksOfOthers();
        s.end();
    }

    private static void names() {
        s.hold(SECTION, "A NAME is a long of 1 to 8 bytes a to z, the lowest first, 0 behind them.", () -> {
            s.is("no byte", constantNamed(0), -1);
            s.all("1 byte", 0, constantNamed('a'), constantNamed('z'));
            s.all("a byte next to a, z", -1, constantNamed('a' - 1), constantNamed('z' + 1));
            s.all("capitals", -1, constantNamed('A'), constantNamed('Z'));
            s.all("8 bytes", 0, constantNamed(Due.name("abcdefgh")), constantNamed(Due.name("zzzzzzzz")));
            s.all("7 bytes", 0, constantNamed(Due.name("abcdefg")));
            s.all("an eighth that is none", -1, constantNamed(0x6061616161616161L), constantNamed(0x7b61616161616161L),
                    constantNamed(0xe161616161616161L));
            s.all("a second that is none", -1, constantNamed(0x6061), constantNamed(0x7b61), constantNamed(0xe161));
            s.all("0 ahead of a byte", -1, constantNamed(0x6100), constantNamed(0x6100000000000000L));
            s.all("0 between", -1, constantNamed(0x610061), constantNamed(0x6100616161616161L));
            s.all("the least, the most", -1, constantNamed(LEAST), constantNamed(MOST), constantNamed(-1));
            FamilyFields x = new FamilyFields();
            x.enumeration();
            s.is("ab", x.constant(0, 'a' + ('b' << 8), false), 0);
            s.is("ba is another one", x.constant(0, 'b' + ('a' << 8), false), 1);
        });
    }

    private static int constantNamed(long name) {
        FamilyFields x = new FamilyFields();
        x.enumeration();
        return x.constant(0, name, false);
    }

    private static void howMany() {
        s.hold(SECTION, "ENUMERATIONS 0 .. 3 have CONSTANTS, 8 at most, with NAMES (no two alike of one);", () -> {
            FamilyFields x = new FamilyFields();
            for (int e = 0; e <= 3; e++) {
                s.is("enumeration()", Sentences.enumeration(x, "abcdefg"), e);
                s.is("an eighth, named alike in each", x.constant(e, 'h', false), 7);
                s.is("a ninth", x.constant(e, 'i', false), -3);
                s.all("named alike", -1, x.constant(e, 'a', true), x.constant(e, 'h', false));
            }
            s.is("a fifth enumeration", x.enumeration(), -3);
        });
        s.hold(SECTION, "a CONSTANT is told by its ORDINAL, from 0 on; it may be BODIED.", () -> {
            FamilyFields x = new FamilyFields();
            Sentences.enumeration(x, "aB");
            s.is("the first", x.named(0, 'a'), 0);
            s.is("the second", x.named(0, 'b'), 1);
            s.is("not bodied", x.work(0, 0, 0, 1), 1);
            s.is("bodied", x.work(0, 1, 0, 1), 5);
            s.all("no ordinals", LEAST, x.work(0, -1, 0, 1), x.work(0, 2, 0, 1));
        });
        s.hold(SECTION, "RECORDS 0 .. 5 have PARTS, 6 at most, with NAMES (no two alike of one), told by numbers from 0 on, "
                + "and CHECKS, 4 at most.", () -> {
            FamilyFields x = new FamilyFields();
            for (int r = 0; r <= 5; r++) {
                s.is("record()", Sentences.record(x, 4, 4, 4, 4, 4), r);
                s.is("a sixth part, named alike in each", x.part(r, 'f', 4, 0, 0), 5);
                s.is("a seventh", x.part(r, 'g', 4, 0, 0), -3);
                s.all("named alike", -1, x.part(r, 'a', 4, 0, 0), x.part(r, 'f', 4, 0, 0));
                for (int c = 1; c <= 4; c++) s.is("check", x.check(r, c, 0, 0, 0), c);
                s.is("a fifth check", x.check(r, 0, 0, 0, 0), -3);
            }
            s.is("a seventh record", x.record(), -3);
        });
        s.hold(SECTION, "FAMILIES 0 .. 2 have MEMBERS, 4 at most: RECORDS and FAMILIES of lesser numbers.", () -> {
            FamilyFields x = new FamilyFields();
            for (int r = 0; r < 5; r++) x.record();
            for (int f = 0; f <= 2; f++) {
                s.is("family()", x.family(), f);
                for (int m = 0; m < f; m++) s.is("a family of a lesser number", x.permit(f, true, m), m + 1);
                s.all("itself, a greater one", -1, x.permit(f, true, f), x.permit(f, true, f + 1));
                for (int m = f; m < 4; m++) s.is("a record", x.permit(f, false, m), m + 1);
                s.is("a fifth", x.permit(f, false, 4), -3);
            }
            s.is("a fourth family", x.family(), -3);
        });
    }

    /** Families 0 of 4, 3; 1 of 2, family 0; 2 of 3, family 1, family 0, 0; the greater ones were told first. */
    private static FamilyFields nested() {
        FamilyFields x = new FamilyFields();
        for (int f = 0; f < 3; f++) x.family();
        for (int r = 0; r < 6; r++) x.record();
        x.permit(2, false, 3);
        x.permit(2, true, 1);
        x.permit(2, true, 0);
        x.permit(2, false, 0);
        x.permit(1, false, 2);
        x.permit(1, true, 0);
        x.permit(0, false, 4);
        x.permit(0, false, 3);
        return x;
    }

    private static void leaves() {
        s.hold(SECTION, "THE LEAVES of a FAMILY are the RECORDS come to through its MEMBERS in order (those of a FAMILY in its "
                + "place), each once, where it comes first;", () -> {
            FamilyFields x = nested();
            s.is("leaves of 0", x.about(0, 4), 2);
            s.is("leaves of 1", x.about(1, 4), 3);
            s.is("leaves of 2, each once", x.about(2, 4), 4);
            FamilyFields y = new FamilyFields();
            y.family();
            y.family();
            y.permit(1, true, 0);
            s.is("no leaves of no members", y.about(0, 4), 0);
            s.is("nor through them", y.about(1, 4), 0);
            y.record();
            y.permit(0, false, 0);
            s.is("a leaf that came to the lesser one later", y.about(1, 4), 1);
            y.permit(1, false, 0);
            s.is("a member twice over", y.about(1, 4), 1);
            s.is("though two members", y.about(1, 3), 2);
        });
        s.hold(SECTION, "the TAG of a RECORD is how many are before it.", () -> {
            FamilyFields x = nested();
            for (int r = 0; r < 6; r++) x.make(r);
            int[][] tags = {{-1, -1, -1, 1, 0, -1}, {-1, -1, 0, 2, 1, -1}, {3, -1, 1, 0, 2, -1}};
            for (int f = 0; f < 3; f++) {
                for (int r = 0; r < 6; r++) s.is("tag(" + r + ", " + f + ")", x.tag(r, f), tags[f][r]);
            }
        });
    }

    /** What a part of a sort is, of some bits; there are eight constants, a row of lane 0, an object of family 0. */
    private static long told(int sort, long bits) {
        FamilyFields x = new FamilyFields();
        Sentences.enumeration(x, "abcdefgh");
        int leaf = x.record();
        Sentences.family(x, leaf);
        int record = Sentences.record(x, sort);
        x.row(0, 1);
        x.make(leaf);
        int made = Sentences.make(x, record, bits);
        return made < 0 ? made : x.told(made, 0);
    }

    private static void sorts() {
        s.hold(SECTION, "SORTS of a PART: 0 flag, 1 byte, 2 short, 3 char, 4 int, 5 long, 6 float, 7 double;", () -> {
            FamilyFields x = new FamilyFields();
            x.record();
            s.all("no sorts", -1, x.part(0, 'a', -1, 0, 0), x.part(0, 'a', 12, 0, 0), x.part(0, 'a', Integer.MIN_VALUE, 0, 0),
                    x.part(0, 'a', Integer.MAX_VALUE, 0, 0));
            for (int sort = 0; sort < 8; sort++) s.is("1 of sort " + sort, told(sort, 1), 1);
            long[][] ends = {{1, 127, -128}, {2, 32767, -32768}, {3, 65535, 0}, {4, 2147483647L, -2147483648L}, {5, MOST, LEAST}};
            for (long[] end : ends) {
                s.is("the most of sort " + end[0], told((int) end[0], end[1]), end[1]);
                s.is("the least of sort " + end[0], told((int) end[0], end[2]), end[2]);
            }
        });
        s.hold(SECTION, "8 a CONSTANT of an ENUMERATION, or none;", () -> {
            for (int i = -1; i <= 7; i++) s.is("8 of " + i, told(8, i), i);
            s.all("none such", -1, told(8, 8), told(8, -2), told(8, 1L << 32), told(8, LEAST), told(8, MOST));
        });
        s.hold(SECTION, "9 a SET of its CONSTANTS;", () -> {
            s.is("of none", told(9, 0), 0);
            s.is("of the first", told(9, 1), 1);
            s.is("of the last", told(9, 128), 128);
            s.is("of all", told(9, 255), 255);
            s.all("none such", -1, told(9, 256), told(9, -1), told(9, 1L << 32), told(9, LEAST), told(9, MOST));
        });
        s.hold(SECTION, "10 a ROW of a LANE (0 .. 7, as SORTS), or none;", () -> {
            for (int lane = 0; lane <= 7; lane++) {
                FamilyFields x = new FamilyFields();
                x.record();
                s.is("a part of lane " + lane, x.part(0, 'a', 10, lane, 0), 0);
                s.is("a row of it", x.row(lane, 1), 0);
                s.is("made", Sentences.make(x, 0, 0), 0);
                x.put(0, 0, -255);
                s.is("an item as of that sort", x.item(0, 0), told(lane, -255));
            }
            FamilyFields x = new FamilyFields();
            x.record();
            s.all("no lanes", -1, x.part(0, 'a', 10, -1, 0), x.part(0, 'a', 10, 8, 0), x.row(-1, 0), x.row(8, 0));
            s.is("none", told(10, -1), -1);
        });
        s.hold(SECTION, "11 an OBJECT of a FAMILY, or none.", () -> {
            s.is("an object", told(11, 0), 0);
            s.is("none", told(11, -1), -1);
            s.all("none such", -1, told(11, 1), told(11, -2), told(11, 1L << 32));
        });
    }

    private static void bitsOfSorts() {
        s.hold(SECTION, "BITS of it: of 0: 1 or 0;", () -> {
            s.is("0", told(0, 0), 0);
            s.all("others", 1, told(0, 1), told(0, -1), told(0, LEAST), told(0, 1L << 32), told(0, 2));
        });
        s.hold(SECTION, "of 1 to 5 itself;", () -> {
            for (int sort = 1; sort <= 5; sort++) {
                for (int bits = -1; bits <= 1; bits++) {
                    s.is(bits + " of sort " + sort, told(sort, bits), sort == 3 && bits < 0 ? 65535 : bits);
                }
            }
        });
        s.hold(SECTION, "of 6 its 32 bits (as an int), of 7 its 64 (of what is no number 0x7fc00000, 0x7ff8000000000000);", () -> {
            s.is("the least float of a sign, as an int", told(6, 0x80000000L), Integer.MIN_VALUE);
            s.is("-1.0f, as an int", told(6, 0xbf800000L), 0xbf800000);
            s.all("floats that are no number", 0x7fc00000, told(6, 0x7fc00000), told(6, 0x7f800001), told(6, 0x7fffffff),
                    told(6, 0xff800001L), told(6, -1), told(6, 0xffc00000L));
            s.is("the infinite float", told(6, 0x7f800000), 0x7f800000);
            s.is("that below 0", told(6, 0xff800000L), 0xff800000);
            s.is("the largest float", told(6, 0x7f7fffff), 0x7f7fffff);
            s.all("doubles that are no number", 0x7ff8000000000000L, told(7, 0x7ff8000000000000L), told(7, 0x7ff0000000000001L),
                    told(7, MOST), told(7, 0xfff0000000000001L), told(7, -1), told(7, 0xfff8000000000000L));
            s.is("the infinite double", told(7, 0x7ff0000000000000L), 0x7ff0000000000000L);
            s.is("that below 0", told(7, 0xfff0000000000000L), 0xfff0000000000000L);
            s.is("the largest double", told(7, 0x7fefffffffffffffL), 0x7fefffffffffffffL);
            s.is("0 with a sign", told(7, LEAST), LEAST);
        });
        s.hold(SECTION, "of 8 the ORDINAL, of 9 the sum of 2^ORDINAL, of 10, 11 the number; none: -1.", () -> {
            s.is("the last constant", told(8, 7), 7);
            s.is("a set of the first and the last", told(9, 129), 129);
            s.is("the row", told(10, 0), 0);
            s.is("the object", told(11, 0), 0);
            s.all("none", -1, told(8, -1), told(10, -1), told(11, -1));
            s.is("a set of none", told(9, 0), 0);
        });
    }

    private static void sortsFromBits() {
        s.hold(SECTION, "From BITS: of 0 whether they are not 0;", () -> {
            s.is("0", told(0, 0), 0);
            s.all("a bit alone", 1, told(0, 1), told(0, 1L << 31), told(0, 1L << 32), told(0, LEAST));
        });
        s.hold(SECTION, "of 1 to 7 as many of the lowest ones as it has;", () -> {
            long[][] round = {{1, 128, -128}, {1, -129, 127}, {1, 256, 0}, {2, 32768, -32768}, {2, -32769, 32767}, {2, 65536, 0},
                {3, 65536, 0}, {3, -1, 65535}, {3, -65536, 0}, {4, 1L << 31, Integer.MIN_VALUE}, {4, -(1L << 31) - 1, Integer.MAX_VALUE},
                {4, 1L << 32, 0}, {6, (1L << 32) + 1, 1}, {6, MOST << 32, 0}, {6, 0x7ff000003f800000L, 0x3f800000}};
            for (long[] r : round) s.is(r[1] + " of sort " + r[0], told((int) r[0], r[1]), r[2]);
            s.is("all 64", told(5, 0x123456789abcdef0L), 0x123456789abcdef0L);
            s.is("all 64", told(7, 0x123456789abcdef0L), 0x123456789abcdef0L);
        });
        s.hold(SECTION, "of 8 to 11 as told.", () -> {
            for (int sort = 8; sort <= 11; sort++) {
                s.is("0 of sort " + sort, told(sort, 0), 0);
                s.all("the whole long counts, not its lowest bits, of sort " + sort, -1, told(sort, 1L << 32), told(sort, 1L << 8));
            }
        });
    }

    /** What a part that came later is in an object that was kept before. */
    private static long came(int sort, long standard) {
        FamilyFields x = new FamilyFields();
        Sentences.enumeration(x, "a");
        Sentences.family(x);
        x.record();
        x.make(0);
        x.keep(0);
        x.build();
        x.part(0, 'a', sort, 0, standard);
        x.row(0, 1);
        return x.told(x.load(0), 0);
    }

    private static void standards() {
        s.hold(SECTION, "STANDARD of a PART of SORT 0 to 7: what it is where nothing was kept of it;", () -> {
            for (int sort = 0; sort <= 7; sort++) {
                long[] some = {0, 1, -1, 127, 128, 65535, 65536, 1L << 31, 1L << 32, LEAST, MOST, 0x7f800001, 0x3f800000};
                for (long bits : some) s.is(bits + " of sort " + sort, came(sort, bits), told(sort, bits));
            }
        });
        s.hold(SECTION, "of others it is none (a SET of none).", () -> {
            s.all("8", -1, came(8, 0), came(8, -1), came(8, 1));
            s.all("9", 0, came(9, 0), came(9, -1), came(9, 1));
            s.all("10", -1, came(10, 0), came(10, -1), came(10, 1));
            s.all("11", -1, came(11, 0), came(11, -1), came(11, 1));
        });
    }

    /** What make() answers for one part of a sort with one check. */
    private static int checked(int sort, int check, long a, long b, long bits) {
        FamilyFields x = new FamilyFields();
        Sentences.record(x, sort);
        x.check(0, 0, check, a, b);
        return Sentences.make(x, 0, bits);
    }

    /** Which sorts take a check, as letters y and n from sort 0 on. */
    private static String taken(int check) {
        StringBuilder taken = new StringBuilder();
        for (int sort = 0; sort <= 11; sort++) {
            FamilyFields x = new FamilyFields();
            x.enumeration();
            x.family();
            Sentences.record(x, sort);
            int answer = x.check(0, 0, check, 0, 0);
            taken.append(answer == 1 ? 'y' : answer == -1 ? 'n' : '?');
        }
        return taken.toString();
    }

    private static void takes(int check, String want) {
        s.is("check " + check + " of sorts " + taken(check), taken(check).equals(want) ? 1 : 0, 1);
    }

    private static long bits(double d) {
        return Double.doubleToRawLongBits(d);
    }

    private static long bits(float f) {
        return Float.floatToRawIntBits(f);
    }

    private static void checksOfNumbers() {
        s.hold(SECTION, "CHECKS of a PART, with the code of what is THROWN: 0 BETWEEN a and b (of 0 to 7;", () -> {
            takes(0, "yyyyyyyynnnn");
            for (int sort = 1; sort <= 5; sort++) {
                s.all("both ends and between them", 0, checked(sort, 0, 3, 5, 3), checked(sort, 0, 3, 5, 4), checked(sort, 0, 3, 5, 5));
                s.all("next to the ends", -11, checked(sort, 0, 3, 5, 2), checked(sort, 0, 3, 5, 6));
                s.is("a is b", checked(sort, 0, 4, 4, 4), 0);
                s.all("a above b", -11, checked(sort, 0, 5, 3, 3), checked(sort, 0, 5, 3, 4), checked(sort, 0, 5, 3, 5));
            }
            s.all("flags", 0, checked(0, 0, 0, 0, 0), checked(0, 0, 1, 1, -7), checked(0, 0, 0, 1, 0));
            s.all("flags", -11, checked(0, 0, 0, 0, 2), checked(0, 0, 1, 1, 0));
            s.is("all longs", checked(5, 0, LEAST, MOST, LEAST), 0);
            s.is("the least alone", checked(5, 0, LEAST, LEAST, LEAST + 1), -11);
            s.is("a, b are whole longs", checked(1, 0, 1L << 32, (1L << 32) + 9, 5), -11);
        });
        s.hold(SECTION, "floats, doubles as doubles, with a, b as doubles;", () -> {
            s.all("doubles at both ends", 0, checked(7, 0, -3, 3, bits(-3.0)), checked(7, 0, -3, 3, bits(3.0)));
            s.all("doubles next to them", -11, checked(7, 0, -3, 3, bits(Math.nextUp(3.0))), checked(7, 0, -3, 3, bits(Math.nextDown(-3.0))));
            s.all("floats at both ends", 0, checked(6, 0, -3, 3, bits(-3f)), checked(6, 0, -3, 3, bits(3f)));
            s.all("floats next to them", -11, checked(6, 0, -3, 3, bits(Math.nextUp(3f))), checked(6, 0, -3, 3, bits(Math.nextDown(-3f))));
            s.all("0 with a sign is 0", 0, checked(7, 0, 0, 0, bits(-0.0)), checked(6, 0, 0, 0, bits(-0f)));
            s.all("the least ones above 0", -11, checked(7, 0, 0, 0, 1), checked(6, 0, 0, 0, 1));
            s.all("infinite ones", -11, checked(7, 0, LEAST, MOST, bits(Double.POSITIVE_INFINITY)),
                    checked(6, 0, LEAST, MOST, bits(Float.NEGATIVE_INFINITY)));
            // 2^53 and 1 has no double of its own, nor has the most long: as doubles they are 2^53 and 2^63.
            long even = 1L << 53;
            s.is("a rounds down", checked(7, 0, even + 1, MOST, bits((double) even)), 0);
            s.is("a rounds up", checked(7, 0, even + 3, MOST, bits((double) (even + 2))), -11);
            s.is("b rounds up", checked(7, 0, 0, even + 3, bits((double) (even + 4))), 0);
            s.is("b rounds to 2^63", checked(7, 0, 0, MOST, bits(0x1p63)), 0);
            s.is("a float of 2^63", checked(6, 0, 0, MOST, bits(0x1p63f)), 0);
            s.is("a float is no less exact than a", checked(6, 0, 16777217, MOST, bits(16777216f)), -11);
        });
        s.hold(SECTION, "what is no number is not): 1 ARGUMENT, if it is not.", () -> {
            s.all("floats", -11, checked(6, 0, LEAST, MOST, 0x7fc00000), checked(6, 0, LEAST, MOST, 0xff800001L));
            s.all("doubles", -11, checked(7, 0, LEAST, MOST, 0x7ff8000000000000L), checked(7, 0, LEAST, MOST, -1));
        });
        s.hold(SECTION, "2 DIVIDES a (1 to 5): 3 ZERO by 0.", () -> {
            takes(2, "nyyyyynnnnnn");
            for (int sort = 1; sort <= 5; sort++) {
                s.all("by 0", -13, checked(sort, 2, 9, 9, 0), checked(sort, 2, 0, 0, 0));
                s.all("by others", 0, checked(sort, 2, 0, 0, 1), checked(sort, 2, LEAST, 0, -1));
            }
            s.all("by what is 0 of its lowest bits", -13, checked(1, 2, 1, 0, 256), checked(2, 2, 1, 0, 65536),
                    checked(3, 2, 1, 0, 65536), checked(4, 2, 1, 0, 1L << 32));
            s.is("a long has them all", checked(5, 2, 1, 0, 1L << 32), 0);
        });
        s.hold(SECTION, "3 SIZE (1 to 4): a row is made of as many cells as the PART leaves by 8 (with its sign): 4 SIZE below 0.", () -> {
            takes(3, "nyyyynnnnnnn");
            for (int sort = 1; sort <= 4; sort++) {
                s.all("0 and above", 0, checked(sort, 3, 0, 0, 0), checked(sort, 3, 0, 0, 1), checked(sort, 3, 0, 0, 7),
                        checked(sort, 3, 0, 0, 8), checked(sort, 3, 0, 0, 127));
                s.all("below 0, but nothing is left", 0, checked(sort, 3, 0, 0, -8), checked(sort, 3, 0, 0, -16), checked(sort, 3, 0, 0, -128));
                int due = sort == 3 ? 0 : -14;
                s.all("below 0, but for chars", due, checked(sort, 3, 0, 0, -1), checked(sort, 3, 0, 0, -7), checked(sort, 3, 0, 0, -9));
            }
            s.is("the least int", checked(4, 3, 0, 0, Integer.MIN_VALUE), 0);
            s.is("the one above it", checked(4, 3, 0, 0, Integer.MIN_VALUE + 1), -14);
            s.is("an int below 0 of its lowest bits", checked(4, 3, 0, 0, 0xffffffffL), -14);
        });
    }

    private static void checksOfOthers() {
        s.hold(SECTION, "1 PRESENT (8, 10, 11): 2 NULL, if it is none.", () -> {
            takes(1, "nnnnnnnnynyy");
            for (int sort : new int[] {8, 10, 11}) {
                FamilyFields x = new FamilyFields();
                Sentences.enumeration(x, "a");
                int leaf = x.record();
                Sentences.family(x, leaf);
                int record = Sentences.record(x, sort);
                x.check(record, 0, 1, 0, 0);
                x.row(0, 0);
                s.is("none of sort " + sort, Sentences.make(x, record, -1), -12);
                x.make(leaf);
                s.is("number 0 of sort " + sort, Sentences.make(x, record, 0), 1);
            }
        });
        s.hold(SECTION, "4 ITEM a (10): 2 NULL without a ROW, 5 INDEX, if it has no ITEM a.", () -> {
            takes(4, "nnnnnnnnnnyn");
            s.all("without a row", -12, item(0, 0, -1), item(16, 0, -1), item(16, -1, -1));
            s.all("the first, the last", 0, item(1, 0, 0), item(16, 0, 0), item(16, 15, 0));
            s.all("none such", -15, item(0, 0, 0), item(1, 1, 0), item(1, -1, 0), item(16, 16, 0), item(16, LEAST, 0), item(16, MOST, 0));
            s.is("a whole long", item(16, 1L << 32, 0), -15);
        });
        s.hold(SECTION, "5 OF RECORD a (11): 6 CAST, if it is an OBJECT of another one.", () -> {
            takes(5, "nnnnnnnnnnny");
            s.all("that one", 0, ofRecord(0, 0), ofRecord(1, 1));
            s.all("another one", -16, ofRecord(0, 1), ofRecord(1, 0));
            s.all("no record at all", -16, ofRecord(-1, 0), ofRecord(6, 0), ofRecord(1L << 32, 0), ofRecord(LEAST, 0));
            s.all("none is of no other one", 0, ofRecord(0, -1), ofRecord(-1, -1));
        });
        s.hold(SECTION, "6 LAID (8): 7 STORE, if it is a CONSTANT that is not BODIED.", () -> {
            takes(6, "nnnnnnnnynnn");
            FamilyFields x = new FamilyFields();
            Sentences.enumeration(x, "aBcD");
            Sentences.record(x, 8);
            x.check(0, 0, 6, 0, 0);
            s.all("not bodied", -17, Sentences.make(x, 0, 0), Sentences.make(x, 0, 2));
            s.is("bodied", Sentences.make(x, 0, 1), 0);
            s.is("bodied", Sentences.make(x, 0, 3), 1);
            s.is("none is no constant", Sentences.make(x, 0, -1), 2);
        });
    }

    /** What make() answers for a part with ITEM a, of row 0 with n items, or of none (-1). */
    private static int item(int n, long a, int row) {
        FamilyFields x = new FamilyFields();
        Sentences.record(x, 10);
        x.check(0, 0, 4, a, 0);
        x.row(0, n);
        return Sentences.make(x, 0, row);
    }

    /** 0, or what make() answers for a part with OF RECORD a, of an object of record 0 or 1, or of none (-1). */
    private static int ofRecord(long a, int object) {
        FamilyFields x = new FamilyFields();
        x.record();
        x.record();
        Sentences.family(x, 0, 1);
        Sentences.record(x, 11);
        x.check(2, 0, 5, a, 0);
        x.make(0);
        x.make(1);
        int answer = Sentences.make(x, 2, object);
        return answer == 2 ? 0 : answer;
    }
}
