/** Promises 19 to 25: the draft, making with its checks, the cause, and what objects tell. */
public final class ObjectsTest {
    private static final Due due = new Due();
    private static final long A = 'a', B = 'b', C = 'c';

    public static void main(String[] args) {
        giveCall();
        badDrafts();
        hundredObjects();
        between();
        betweenFloats();
        otherChecks();
        checksInOrder();
        causeCall();
        toldAndOf();
        tagCall();
        sameCall();
        sameDeep();
        due.end();
    }

    private static void giveCall() {
        FamilyFields x = new FamilyFields();
        due.is("19: below", x.give(-1, 0), -1);
        due.is("19: above", x.give(6, 0), -1);
        x.record();
        for (int i = 0; i < 6; i++) x.part(0, A + i, 5, 0, 0);
        due.is("20: of the draft as at first", x.make(0), 0);
        for (int i = 0; i < 6; i++) due.is("20: 0", x.told(0, i), 0);
        for (int i = 0; i < 6; i++) due.is("19: give", x.give(i, 10 + i), 1);
        x.make(0);
        for (int i = 0; i < 6; i++) due.is("20: as given", x.told(1, i), 10 + i);
        for (int i = 0; i < 6; i++) due.is("20: the one before stays", x.told(0, i), 0);
        x.make(0);
        due.is("20: the draft stays", x.told(2, 5), 15);
    }

    private static void badDrafts() {
        FamilyFields x = new FamilyFields();
        due.is("20: no record", x.make(0), -1);
        x.enumeration();
        x.constant(0, A, false);
        x.constant(0, B, false);
        x.enumeration();
        x.family();
        for (int i = 0; i < 6; i++) x.record();
        x.permit(0, false, 5);
        x.part(0, A, 8, 0, 0);
        x.part(1, A, 9, 0, 0);
        x.part(2, A, 10, 3, 0);
        x.part(3, A, 11, 0, 0);
        x.part(4, A, 9, 1, 0);
        x.row(2, 1);
        x.row(3, 1);
        x.make(5);
        due.is("20: record below", x.make(-1), -1);
        due.is("20: record above", x.make(6), -1);
        long[][] drafts = {{0, -2, 2, 1L << 32, Long.MIN_VALUE}, {1, -1, 4, 7, 1L << 40, Long.MIN_VALUE},
            {2, -2, 0, 2, (1L << 32) + 1}, {3, -2, 1, 1L << 32}, {4, 1, -1}};
        for (long[] each : drafts) {
            for (int i = 1; i < each.length; i++) {
                x.give(0, each[i]);
                due.is("20: record " + each[0] + " of " + each[i], x.make((int) each[0]), -1);
            }
        }
        due.is("20: nobody started by these", x.started(1), -1);
        due.is("21: nor a cause", x.cause(0), 0);
        long[][] fine = {{0, -1, 0, 1}, {1, 0, 1, 2, 3}, {2, -1, 1}, {3, -1, 0}, {4, 0}};
        int made = 1;
        for (long[] each : fine) {
            for (int i = 1; i < each.length; i++) {
                x.give(0, each[i]);
                due.is("20: record " + each[0] + " of " + each[i], x.make((int) each[0]), made);
                due.is("22: told", x.told(made++, 0), each[i]);
            }
        }
        x.give(0, 1);
        due.is("20: an object of another family", x.make(3), -1);
    }

    private static void hundredObjects() {
        FamilyFields x = new FamilyFields();
        x.record();
        x.part(0, A, 4, 0, 0);
        x.check(0, 0, 2, 0, 0);
        x.give(0, 1);
        x.make(0);
        x.keep(0);
        x.build();
        x.load(0);
        x.give(0, 0);
        for (int i = 0; i < 3; i++) due.is("20: one that fails is not made", x.make(0), -13);
        x.give(0, 1);
        for (int i = 1; i <= 100; i++) due.is("20: behind the loaded one", x.make(0), i);
        due.is("20: FULL", x.make(0), -3);
        x.give(0, 0);
        due.is("20: FULL ahead of a code", x.make(0), -3);
        due.is("20: BAD ahead of FULL", x.make(1), -1);
        due.is("34: objects", x.count(4), 101);
        x.build();
        x.give(0, 1);
        due.is("20: in a new build", x.make(0), 0);
        for (int i = 1; i < 100; i++) x.make(0);
        due.is("20: FULL", x.make(0), -3);
        due.is("30: load has room still", x.load(0), 100);
    }

    /** What make() answers for one part of a sort with one check. */
    private static int checked(int sort, int kind, long a, long b, long bits) {
        FamilyFields x = new FamilyFields();
        x.record();
        x.part(0, A, sort, 0, 0);
        x.check(0, 0, kind, a, b);
        x.give(0, bits);
        return x.make(0);
    }

    private static void between() {
        for (int sort = 1; sort <= 5; sort++) {
            long[][] rows = {{3, 5, 2, -11}, {3, 5, 3, 0}, {3, 5, 4, 0}, {3, 5, 5, 0}, {3, 5, 6, -11}, {4, 4, 4, 0},
                {5, 3, 4, -11}, {5, 3, 5, -11}, {Long.MIN_VALUE, Long.MAX_VALUE, 9, 0}};
            for (long[] r : rows) due.is("20: sort " + sort + " BETWEEN", checked(sort, 0, r[0], r[1], r[2]), r[3]);
        }
        due.is("20: flag", checked(0, 0, 1, 1, 77), 0);
        due.is("20: flag", checked(0, 0, 1, 1, 0), -11);
        due.is("20: char", checked(3, 0, 0, 65535, -1), 0);
        due.is("20: byte", checked(1, 0, 0, 255, 255), -11);
        due.is("20: long", checked(5, 0, Long.MIN_VALUE, Long.MIN_VALUE, Long.MIN_VALUE), 0);
        due.is("20: long", checked(5, 0, Long.MAX_VALUE, Long.MAX_VALUE, Long.MAX_VALUE - 1), -11);
    }

    private static void betweenFloats() {
        double[] values = {0.0, -0.0, 1.5, 2, 3, -3, 3.0000000000000004, -3.0000000000000004, Double.POSITIVE_INFINITY,
            Double.NEGATIVE_INFINITY, Double.NaN, Double.MIN_VALUE, -Double.MIN_VALUE, Double.MAX_VALUE, 9007199254740992.0,
            9007199254740994.0, 9223372036854775807.0, -9223372036854775808.0, 9.3e18, 16777216, 16777217};
        long[] bounds = {0, 1, -1, 2, 3, -3, 9007199254740992L, 9007199254740993L, 9007199254740995L, Long.MAX_VALUE,
            Long.MIN_VALUE, Long.MAX_VALUE - 512, Long.MAX_VALUE - 511, 16777217};
        for (double v : values) {
            for (long a : bounds) {
                for (long b : bounds) {
                    int want = v >= (double) a && v <= (double) b ? 0 : -11;
                    due.is("20: double " + v + " BETWEEN " + a + ", " + b, checked(7, 0, a, b, Double.doubleToRawLongBits(v)), want);
                    float f = (float) v;
                    want = f >= (double) a && f <= (double) b ? 0 : -11;
                    due.is("20: float " + f + " BETWEEN " + a + ", " + b, checked(6, 0, a, b, Float.floatToRawIntBits(f)), want);
                }
            }
        }
        due.is("20: no number", checked(6, 0, Long.MIN_VALUE, Long.MAX_VALUE, 0xff800001L), -11);
        due.is("20: no number", checked(7, 0, Long.MIN_VALUE, Long.MAX_VALUE, 0xfff0000000000001L), -11);
        due.is("20: a small float", checked(6, 0, 0, 0, 1), -11);
        due.is("20: a small float", checked(6, 0, 0, 1, 1), 0);
        due.is("20: a small float below 0", checked(6, 0, 0, 1, 0x80000001L), -11);
    }

    private static void otherChecks() {
        for (int sort = 1; sort <= 5; sort++) {
            due.is("20: sort " + sort + " DIVIDES", checked(sort, 2, 9, 0, 0), -13);
            due.is("20: sort " + sort + " DIVIDES", checked(sort, 2, 9, 0, 1), 0);
            due.is("20: sort " + sort + " DIVIDES 0", checked(sort, 2, 0, 0, 3), 0);
        }
        due.is("20: DIVIDES, by the lowest bits", checked(1, 2, 9, 0, 256), -13);
        due.is("20: DIVIDES the least by -1", checked(5, 2, Long.MIN_VALUE, 0, -1), 0);
        long[][] sizes = {{0, 0}, {8, 0}, {7, 0}, {-8, 0}, {-16, 0}, {-1, -14}, {-7, -14}, {-9, -14}};
        for (long[] r : sizes) {
            due.is("20: byte SIZE of " + r[0], checked(1, 3, 0, 0, r[0]), r[1]);
            due.is("20: short SIZE of " + r[0], checked(2, 3, 0, 0, r[0]), r[1]);
            due.is("20: char SIZE of " + r[0], checked(3, 3, 0, 0, r[0]), 0);
            due.is("20: int SIZE of " + r[0], checked(4, 3, 0, 0, r[0]), r[1]);
        }
        due.is("20: the least int", checked(4, 3, 0, 0, Integer.MIN_VALUE), 0);
        due.is("20: the least int and 1", checked(4, 3, 0, 0, Integer.MIN_VALUE + 1), -14);
        checksOfRows();
        checksOfConstants();
        checksOfObjects();
    }

    private static void checksOfRows() {
        long[][] rows = {{0, 0}, {2, 0}, {3, -15}, {-1, -15}, {1L << 32, -15}, {Long.MIN_VALUE, -15}};
        for (long[] r : rows) {
            FamilyFields x = new FamilyFields();
            x.record();
            x.part(0, A, 10, 1, 0);
            x.check(0, 0, 4, r[0], 0);
            x.row(1, 3);
            due.is("20: ITEM " + r[0], x.make(0), r[1]);
            x.give(0, -1);
            due.is("20: ITEM without a row", x.make(0), -12);
        }
        FamilyFields x = new FamilyFields();
        x.record();
        x.part(0, A, 10, 1, 0);
        x.check(0, 0, 1, 0, 0);
        x.row(1, 0);
        due.is("20: PRESENT", x.make(0), 0);
        x.give(0, -1);
        due.is("20: PRESENT, none", x.make(0), -12);
    }

    private static void checksOfConstants() {
        FamilyFields x = new FamilyFields();
        x.enumeration();
        x.constant(0, A, false);
        x.constant(0, B, true);
        x.record();
        x.part(0, A, 8, 0, 0);
        x.check(0, 0, 6, 0, 0);
        due.is("20: LAID, not bodied", x.make(0), -17);
        x.give(0, 1);
        due.is("20: LAID, bodied", x.make(0), 0);
        x.give(0, -1);
        due.is("20: LAID, none", x.make(0), 1);
        x.build();
        x.check(0, 0, 1, 0, 0);
        due.is("20: PRESENT, none", x.make(0), -12);
        due.is("21: the second check", x.cause(3), 1);
        x.give(0, 1);
        due.is("20: PRESENT", x.make(0), 0);
    }

    private static void checksOfObjects() {
        FamilyFields x = new FamilyFields();
        x.family();
        for (int i = 0; i < 3; i++) x.record();
        x.permit(0, false, 1);
        x.permit(0, false, 2);
        x.part(0, A, 11, 0, 0);
        x.check(0, 0, 5, 2, 0);
        x.part(1, A, 11, 0, 0);
        x.check(1, 0, 1, 0, 0);
        x.part(2, A, 11, 0, 0);
        x.check(2, 0, 5, (1L << 32) + 2, 0);
        x.give(0, -1);
        due.is("20: PRESENT, none", x.make(1), -12);
        due.is("20: OF RECORD, none", x.make(2), 0);
        due.is("20: OF RECORD, none", x.make(0), 1);
        x.give(0, 0);
        due.is("20: OF RECORD", x.make(0), 2);
        due.is("20: PRESENT", x.make(1), 3);
        due.is("20: OF RECORD, a whole long", x.make(2), -16);
        x.give(0, 3);
        due.is("20: of another one", x.make(0), -16);
        due.is("21: code", x.cause(0), 6);
    }

    private static void checksInOrder() {
        FamilyFields x = new FamilyFields();
        x.record();
        x.part(0, A, 4, 0, 0);
        x.part(0, B, 4, 0, 0);
        x.check(0, 1, 2, 0, 0);
        x.check(0, 0, 2, 0, 0);
        x.check(0, 0, 0, 1, 2);
        due.is("20: the first check fails first", x.make(0), -13);
        due.is("21: of part 1", x.cause(2), 1);
        due.is("21: check 0", x.cause(3), 0);
        x.give(1, 1);
        due.is("20: the second", x.make(0), -13);
        due.is("21: of part 0", x.cause(2), 0);
        due.is("21: check 1", x.cause(3), 1);
        x.give(0, 3);
        due.is("20: the third", x.make(0), -11);
        due.is("21: check 2", x.cause(3), 2);
        x.give(0, 2);
        due.is("20: none", x.make(0), 0);
        due.is("21: the cause stays", x.cause(0), 1);
    }

    private static void causeCall() {
        FamilyFields x = new FamilyFields();
        due.is("21: below", x.cause(-1), Integer.MIN_VALUE);
        due.is("21: above", x.cause(5), Integer.MIN_VALUE);
        x.record();
        x.record();
        x.part(1, A, 4, 0, 0);
        x.part(1, B, 4, 0, 0);
        x.check(1, 0, 0, 0, 0);
        x.check(1, 1, 2, 0, 0);
        x.give(1, 1);
        x.make(1);
        x.keep(0);
        x.build();
        x.becomes(1, 1, 0, 0);
        due.is("30: CAST", x.load(0), -16);
        int[] cast = {6, 1, 1, -1, 0};
        for (int i = 0; i < 5; i++) due.is("21: cause(" + i + ")", x.cause(i), cast[i]);
        x.becomes(1, 1, 4, 0);
        x.check(1, 1, 0, 2, 2);
        due.is("30: ARGUMENT", x.load(0), -11);
        int[] argument = {1, 1, 1, 1, 0};
        for (int i = 0; i < 5; i++) due.is("21: cause(" + i + ")", x.cause(i), argument[i]);
        due.is("20: ARGUMENT", x.make(1), -11);
        due.is("21: no line", x.cause(4), -1);
        due.is("20: BAD", x.make(2), -1);
        due.is("30: BAD", x.load(1), -1);
        due.is("21: they are no causes", x.cause(0), 1);
    }

    private static void toldAndOf() {
        FamilyFields x = new FamilyFields();
        long least = Long.MIN_VALUE;
        x.record();
        x.record();
        x.part(1, A, 5, 0, 0);
        x.part(1, B, 0, 0, 0);
        x.give(0, -4);
        x.give(1, 6);
        due.is("22: no object", x.told(0, 0), least);
        due.is("23: no object", x.of(0), -1);
        x.make(1);
        x.make(0);
        due.is("22: part 0", x.told(0, 0), -4);
        due.is("22: part 1", x.told(0, 1), 1);
        due.is("22: part 2", x.told(0, 2), least);
        due.is("22: part below", x.told(0, -1), least);
        due.is("22: of no parts", x.told(1, 0), least);
        due.is("22: object below", x.told(-1, 0), least);
        due.is("22: object above", x.told(2, 0), least);
        due.is("23: of", x.of(0), 1);
        due.is("23: of", x.of(1), 0);
        due.is("23: above", x.of(2), -1);
        due.is("23: below", x.of(-1), -1);
    }

    private static void tagCall() {
        FamilyFields x = new FamilyFields();
        x.family();
        x.family();
        x.record();
        x.record();
        x.permit(0, false, 1);
        x.permit(1, true, 0);
        x.permit(1, false, 0);
        x.make(0);
        x.make(1);
        due.is("24: none of it", x.tag(0, 0), -1);
        due.is("24: the first", x.tag(1, 0), 0);
        due.is("24: through a family", x.tag(1, 1), 0);
        due.is("24: behind it", x.tag(0, 1), 1);
        due.is("24: object above", x.tag(2, 0), -1);
        due.is("24: object below", x.tag(-1, 0), -1);
        due.is("24: family above", x.tag(0, 2), -1);
        due.is("24: family below", x.tag(0, -1), -1);
    }

    private static int make(FamilyFields x, int record, long... draft) {
        for (int i = 0; i < draft.length; i++) x.give(i, draft[i]);
        return x.make(record);
    }

    private static void sameCall() {
        FamilyFields x = new FamilyFields();
        x.enumeration();
        x.constant(0, A, false);
        x.record();
        x.record();
        for (int r = 0; r < 2; r++) {
            x.part(r, A, 6, 0, 0);
            x.part(r, B, 7, 0, 0);
            x.part(r, C, 10, 1, 0);
            x.part(r, 'd', 8, 0, 0);
            x.part(r, 'e', 9, 0, 0);
        }
        x.row(1, 1);
        x.row(1, 1);
        due.is("25: no objects", x.same(0, 0), -1);
        long[][] drafts = {{0, 0, 0, 0, 0}, {0, 0, 0, 0, 0}, {0x80000000L, 0, 0, 0, 0}, {0, Long.MIN_VALUE, 0, 0, 0},
            {0, 0, 1, 0, 0}, {0, 0, 0, -1, 0}, {0, 0, 0, 0, 1}, {0x7fc00000L, -1, -1, 0, 0}, {0xff800001L, -2, -1, 0, 0}};
        for (int i = 0; i < drafts.length; i++) due.is("20: make", make(x, 0, drafts[i]), i);
        for (int i = 0; i < drafts.length; i++) {
            for (int j = 0; j < drafts.length; j++) {
                boolean same = i == j || i < 2 && j < 2 || i > 6 && j > 6;
                due.is("25: same(" + i + ", " + j + ")", x.same(i, j), same ? 1 : 0);
            }
        }
        int other = make(x, 1, drafts[0]);
        due.is("25: of another record", x.same(0, other), 0);
        due.is("25: a below", x.same(-1, 0), -1);
        due.is("25: b below", x.same(0, -1), -1);
        due.is("25: a above", x.same(other + 1, 0), -1);
        due.is("25: b above", x.same(0, other + 1), -1);
        x.put(0, 0, 9);
        due.is("25: a row's items do not matter", x.same(0, 1), 1);
        x.put(1, 0, 9);
        due.is("25: nor make rows alike", x.same(0, 4), 0);
    }

    private static void sameDeep() {
        FamilyFields x = new FamilyFields();
        x.family();
        x.record();
        x.permit(0, false, 0);
        for (int i = 0; i < 5; i++) x.part(0, A + i, 11, 0, 0);
        x.part(0, 'z', 4, 0, 0);
        make(x, 0, -1, -1, -1, -1, -1, 0);
        make(x, 0, -1, -1, -1, -1, -1, 0);
        make(x, 0, -1, -1, -1, -1, -1, 1);
        // Three towers, each floor made of the one below five times over.
        for (int i = 3; i < 99; i++) make(x, 0, i - 3, i - 3, i - 3, i - 3, i - 3, 0);
        due.is("25: towers alike", x.same(96, 97), 1);
        due.is("25: down to the ground", x.same(96, 98), 0);
        due.is("25: of other heights", x.same(96, 93), 0);
        due.is("25: none and some", x.same(0, 3), 0);
        due.is("25: one that came later", make(x, 0, 97, 96, 97, 96, 97, 0), 99);
        x.build();
        make(x, 0, -1, -1, -1, -1, -1, 5);
        make(x, 0, -1, -1, -1, -1, -1, 6);
        make(x, 0, -1, -1, -1, -1, -1, 5);
        due.is("25: in a new build", x.same(0, 1), 0);
        due.is("25: in a new build", x.same(0, 2), 1);
        make(x, 0, 0, 1, -1, -1, -1, 5);
        make(x, 0, 2, 1, -1, -1, -1, 5);
        make(x, 0, 1, 2, -1, -1, -1, 5);
        due.is("25: parts alike", x.same(3, 4), 1);
        due.is("25: parts in order", x.same(4, 5), 0);
    }
}
