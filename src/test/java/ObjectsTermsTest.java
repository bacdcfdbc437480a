/** "Terms", section 2 OBJECTS, by its own words: numbers of objects and rows, the draft, making, starts, sameness, bodies. */
public final class ObjectsTermsTest {
    private static final Sentences s = new Sentences("2 OBJECTS");
    private static final String SECTION = "2 OBJECTS";
    private static final int MOST = Integer.MAX_VALUE, LEAST = Integer.MIN_VALUE;

    public static void main(String[] args) {
        numbers();
        making();
        failing();
        starting();
        sameness();
        bodies();
        s.end();
    }

    private static void numbers() {
        s.hold(SECTION, "are numbered from 0 on, as they are made,", () -> {
            FamilyFields x = new FamilyFields();
            Sentences.record(x, 4);
            x.check(0, 0, 2, 0, 0);
            s.is("the first", Sentences.make(x, 0, 5), 0);
            s.is("one that fails has no number", Sentences.make(x, 0, 0), -13);
            s.is("the second", Sentences.make(x, 0, 6), 1);
            x.keep(1);
            s.is("a loaded one is made, too", x.load(0), 2);
            s.is("the next", Sentences.make(x, 0, 7), 3);
            x.build();
            s.is("in a new build from 0 on", Sentences.make(x, 0, 8), 0);
            s.is("as made now", x.told(0, 0), 8);
        });
        s.hold(SECTION, "ROWS likewise (with 0 to 16 ITEMS, 0 at first).", () -> {
            FamilyFields x = new FamilyFields();
            s.is("0 items", x.row(5, 0), 0);
            s.is("16 items", x.row(5, 16), 1);
            s.is("17 items", x.row(5, 17), -1);
            s.is("the next", x.row(5, 1), 2);
            s.is("size(0)", x.size(0), 0);
            s.is("size(1)", x.size(1), 16);
            for (int i = 0; i < 16; i++) s.is("an item at first", x.item(1, i), 0);
            for (int i = 0; i < 16; i++) x.put(1, i, 9);
            x.build();
            s.is("in a new build from 0 on", x.row(5, 16), 0);
            s.is("the next", x.row(5, 16), 1);
            for (int i = 0; i < 16; i++) s.is("an item at first in a new build", x.item(1, i), 0);
        });
        s.hold(SECTION, "THE DRAFT has six numbers, BITS of PARTS 0 .. 5 (0 at first).", () -> {
            FamilyFields x = new FamilyFields();
            Sentences.record(x, 5, 5, 5, 5, 5, 5);
            x.make(0);
            for (int i = 0; i < 6; i++) s.is("at first", x.told(0, i), 0);
            for (int i = 0; i < 6; i++) s.is("give(" + i + ")", x.give(i, i + 1), 1);
            s.all("there are no more", -1, x.give(-1, 9), x.give(6, 9));
            x.make(0);
            for (int i = 0; i < 6; i++) s.is("part " + i, x.told(1, i), i + 1);
            x.build();
            x.make(0);
            for (int i = 0; i < 6; i++) s.is("over a build", x.told(0, i), i + 1);
            x.build();
            x.without(0, 0);
            x.make(0);
            for (int i = 0; i < 5; i++) s.is("by the parts' numbers, not names", x.told(0, i), i + 1);
        });
    }

    /** Enumerations 0, 1, 2 of one constant each; record 0 with a constant of 2, a set of 0, a constant of 1. */
    private static FamilyFields three() {
        FamilyFields x = new FamilyFields();
        for (int e = 0; e < 3; e++) Sentences.enumeration(x, "a");
        x.record();
        x.part(0, 'a', 8, 2, 0);
        x.part(0, 'b', 9, 0, 0);
        x.part(0, 'c', 8, 1, 0);
        return x;
    }

    private static void started(FamilyFields x, int... order) {
        for (int i = 0; i < order.length; i++) s.is("started(" + i + ")", x.started(i), order[i]);
        s.is("started(" + order.length + ")", x.started(order.length), -1);
    }

    private static void cause(FamilyFields x, int... cause) {
        for (int i = 0; i < cause.length; i++) s.is("cause(" + i + ")", x.cause(i), cause[i]);
    }

    private static void making() {
        s.hold(SECTION, "To MAKE an OBJECT of a RECORD: the RECORD STARTS;", () -> {
            FamilyFields x = three();
            x.record();
            started(x);
            x.make(1);
            started(x, 1);
            s.is("one of no constants", Sentences.make(x, 0, -1, 0, -1), 1);
            started(x, 1, 0);
            x = three();
            s.is("a draft that is none", Sentences.make(x, 0, 1), -1);
            started(x);
        });
        s.hold(SECTION, "then by PARTS in order the ENUMERATION of each CONSTANT (not of none) and of each SET with one or more;", () -> {
            FamilyFields x = three();
            Sentences.make(x, 0, 0, 1, 0);
            started(x, 0, 12, 10, 11);
            x = three();
            Sentences.make(x, 0, -1, 1, 0);
            started(x, 0, 10, 11);
            x = three();
            Sentences.make(x, 0, 0, 0, -1);
            started(x, 0, 12);
        });
        s.hold(SECTION, "then its CHECKS, in order, of the PARTS.", () -> {
            FamilyFields x = three();
            Sentences.record(x, 4, 4);
            x.check(1, 1, 2, 0, 0);
            x.check(1, 0, 2, 0, 0);
            x.check(1, 0, 0, 1, 2);
            x.check(1, 1, 3, 0, 0);
            s.is("the first check", Sentences.make(x, 1, 0, 0), -13);
            cause(x, 3, 1, 1, 0, -1);
            s.is("the second check", Sentences.make(x, 1, 0, -1), -13);
            cause(x, 3, 1, 0, 1, -1);
            s.is("the third check", Sentences.make(x, 1, 3, -1), -11);
            cause(x, 1, 1, 0, 2, -1);
            s.is("the fourth check", Sentences.make(x, 1, 2, -1), -14);
            cause(x, 4, 1, 1, 3, -1);
            s.is("all hold", Sentences.make(x, 1, 2, 1), 0);
            FamilyFields y = three();
            y.check(0, 0, 1, 0, 0);
            y.fails(1, true);
            s.is("the enumerations are ahead of the checks", Sentences.make(y, 0, -1, 0, 0), -19);
        });
    }

    private static void failing() {
        s.hold(SECTION, "The first that fails is THE CAUSE, and there is no OBJECT;", () -> {
            FamilyFields x = three();
            x.fails(0, true);
            x.fails(1, true);
            s.is("make", Sentences.make(x, 0, 0, 1, 0), -19);
            cause(x, 9, 0, 1, -1, -1);
            s.is("objects", x.count(4), 0);
            s.is("of(0)", x.of(0), -1);
            started(x, 0, 12);
            s.is("enumeration 1 was not come to", Sentences.make(x, 0, 0, 0, 0), -19);
            cause(x, 9, 0, 2, -1, -1);
        });
        s.hold(SECTION, "what has STARTED stays so.", () -> {
            FamilyFields x = three();
            x.check(0, 2, 1, 0, 0);
            s.is("make", Sentences.make(x, 0, 0, 1, -1), -12);
            started(x, 0, 12, 10);
            s.is("make", Sentences.make(x, 0, 0, 1, -1), -12);
            started(x, 0, 12, 10);
            x.fails(0, true);
            s.is("it has started before it was told to fail", x.named(0, 'a'), 0);
        });
    }

    private static void starting() {
        s.hold(SECTION, "TO START: nothing, if it has STARTED.", () -> {
            FamilyFields x = three();
            x.named(0, 'a');
            x.work(0, 0, 0, 0);
            Sentences.make(x, 0, -1, 1, -1);
            Sentences.make(x, 0, -1, 1, -1);
            started(x, 10, 0);
            x.build();
            x.named(0, 'a');
            x.fails(0, true);
            s.is("named", x.named(0, 'a'), 0);
            s.is("work", x.work(0, 0, 0, 4), 4);
            s.is("make", Sentences.make(x, 0, -1, 1, -1), 0);
            started(x, 10, 0);
        });
        s.hold(SECTION, "An ENUMERATION that was told to fail does so: 9 INIT, and from then on in that BUILD 10 NOT at each START;", () -> {
            FamilyFields x = three();
            x.fails(0, true);
            s.is("the first start", Sentences.make(x, 0, -1, 1, -1), -19);
            s.is("make", Sentences.make(x, 0, -1, 1, -1), -20);
            s.is("named", x.named(0, 'a'), -20);
            s.is("work", x.work(0, 0, 0, 0), Long.MIN_VALUE + 10);
            started(x, 0);
            x.fails(0, false);
            s.is("in that build, whatever is told", x.named(0, 'a'), -20);
            x.build();
            s.is("in another one", x.named(0, 'a'), 0);
            x.fails(0, true);
            x.build();
            s.is("it is told still", x.named(0, 'a'), -19);
            x.build();
            s.is("and in each build first so", x.work(0, 0, 0, 0), Long.MIN_VALUE + 9);
            s.is("then NOT", x.named(0, 'z'), -20);
            s.is("others do not fail", x.named(1, 'a'), 0);
        });
        s.hold(SECTION, "a RECORD does not.", () -> {
            FamilyFields x = three();
            Sentences.record(x, 4);
            x.check(1, 0, 2, 0, 0);
            s.is("its check", Sentences.make(x, 1, 0), -13);
            started(x, 1);
            s.is("the record has started all the same", Sentences.make(x, 1, 1), 0);
            started(x, 1);
        });
    }

    private static void sameness() {
        s.hold(SECTION, "Two OBJECTS are THE SAME, if they are of one RECORD, with PARTS alike: by BITS (0 to 10),", () -> {
            FamilyFields x = new FamilyFields();
            x.record();
            x.record();
            x.make(0);
            x.make(1);
            x.make(0);
            s.is("of no parts", x.same(0, 2), 1);
            s.is("of two records", x.same(0, 1), 0);
            s.is("itself", x.same(1, 1), 1);
            for (int sort = 0; sort <= 10; sort++) differing(sort);
            s.is("0 and 0 with a sign, floats", alike(6, 0, 0x80000000L), 0);
            s.is("0 and 0 with a sign, doubles", alike(7, 0, Long.MIN_VALUE), 0);
            s.is("no numbers, floats", alike(6, 0x7f800001, 0xffffffffL), 1);
            s.is("no numbers, doubles", alike(7, 0x7ff0000000000001L, -1), 1);
            s.is("flags", alike(0, 1, 256), 1);
            s.is("bytes", alike(1, 1, 257), 1);
            s.is("rows with items alike are two", alike(10, 0, 1), 0);
            s.is("no row, twice", alike(10, -1, -1), 1);
        });
        s.hold(SECTION, "OBJECTS if they are THE SAME, or none both.", () -> {
            FamilyFields x = new FamilyFields();
            x.record();
            x.family();
            x.permit(0, false, 0);
            x.part(0, 'a', 11, 0, 0);
            x.part(0, 'b', 4, 0, 0);
            long[][] drafts = {{-1, 1}, {-1, 1}, {-1, 2}, {0, 1}, {1, 1}, {2, 1}, {3, 5}, {4, 5}, {5, 5}};
            for (long[] draft : drafts) Sentences.make(x, 0, draft);
            s.is("none both", x.same(0, 1), 1);
            s.is("none of one", x.same(0, 3), 0);
            s.is("two that are the same", x.same(3, 4), 1);
            s.is("two that are not", x.same(3, 5), 0);
            s.is("parts of parts", x.same(6, 7), 1);
            s.is("parts of parts", x.same(8, 7), 0);
        });
    }

    /** Objects of a part with 0 and 1 are two, those with 0 and 0 the same. */
    private static void differing(int sort) {
        s.is("0 and 1 of sort " + sort, alike(sort, 0, 1), 0);
        s.is("1 and 1 of sort " + sort, alike(sort, 1, 1), 1);
    }

    private static int alike(int sort, long first, long second) {
        FamilyFields x = new FamilyFields();
        Sentences.enumeration(x, "ab");
        x.record();
        x.part(0, 'a', 4, 0, 0);
        x.part(0, 'b', sort, 0, 0);
        x.row(0, 1);
        x.row(0, 1);
        Sentences.make(x, 0, 7, first);
        Sentences.make(x, 0, 7, second);
        int there = x.same(0, 1), back = x.same(1, 0);
        return there == back ? there : -99;
    }

    /** What work() answers for the constant of an ordinal among eight, all bodied or none. */
    private static long work(boolean bodied, int ordinal, int way, int n) {
        FamilyFields x = new FamilyFields();
        Sentences.enumeration(x, bodied ? "ABCDEFGH" : "abcdefgh");
        return x.work(0, ordinal, way, n);
    }

    private static void bodies() {
        s.hold(SECTION, "BODIES of CONSTANTS, of a number n (ints, going round):", () -> {
            s.is("PLAIN above the most", work(false, 1, 2, MOST), LEAST);
            s.is("ONCE above the most", work(false, 7, 0, MOST), LEAST + 6);
            s.is("TWICE above the most", work(false, 1, 1, MOST), LEAST + 1);
            s.is("three times the most", work(true, 0, 0, MOST), MOST - 3);
            s.is("three times the least", work(true, 0, 0, LEAST), MOST);
            s.is("n less ONCE of the least", work(true, 1, 1, LEAST), -2);
            s.is("n less ONCE of the most", work(true, 1, 1, MOST), 0);
        });
        s.hold(SECTION, "ONCE: n and its ORDINAL; of a BODIED one that three times, less 1.", () -> {
            for (int o = 0; o < 8; o++) {
                s.is("ordinal " + o, work(false, o, 0, 10), 10 + o);
                s.is("bodied, ordinal " + o, work(true, o, 0, 10), 3 * (10 + o) - 1);
                s.is("bodied, of n below 0", work(true, o, 0, -10), 3 * (o - 10) - 1);
            }
            s.is("0 of 0", work(false, 0, 0, 0), 0);
            s.is("bodied, 0 of 0", work(true, 0, 0, 0), -1);
        });
        s.hold(SECTION, "TWICE: ONCE of ONCE; of a BODIED one with odd ORDINAL: n less ONCE.", () -> {
            for (int o = 0; o < 8; o++) {
                s.is("ordinal " + o, work(false, o, 1, 10), 10 + 2 * o);
                int even = 3 * (3 * (10 + o) - 1 + o) - 1;
                int odd = 10 - (3 * (10 + o) - 1);
                s.is("bodied, ordinal " + o, work(true, o, 1, 10), o % 2 == 0 ? even : odd);
            }
        });
        s.hold(SECTION, "PLAIN: n and its ORDINAL.", () -> {
            for (int o = 0; o < 8; o++) {
                s.all("ordinal " + o, 10 + o, work(false, o, 2, 10), work(true, o, 2, 10));
                s.all("ordinal " + o, o - 10, work(false, o, 2, -10), work(true, o, 2, -10));
            }
        });
    }
}
