/** Promises 15 to 25 by their own words: rows, the draft, making, the cause, and what objects tell, each at its edges. */
public final class ObjectsPromisesTest {
    private static final Sentences s = new Sentences("Promise 15", "Promise 16", "Promise 17", "Promise 18", "Promise 19",
            "Promise 20", "Promise 21", "Promise 22", "Promise 23", "Promise 24", "Promise 25");
    private static final int MOST = Integer.MAX_VALUE, LEAST = Integer.MIN_VALUE;

    public static void main(String[] args) {
        row();
        put();
        itemAndSize();
        give();
        makeOfRecords();
        makeOfOthers();
        makeAnswers();
        cause();
        causeOfOthers();
        told();
        of();
        tag();
        same();
        s.end();
    }

    private static void row() {
        s.hold("Promise 15", "A ROW of a LANE with n ITEMS: its number.", () -> {
            FamilyFields x = new FamilyFields();
            for (int lane = 0; lane <= 7; lane++) s.is("row(" + lane + ", 2)", x.row(lane, 2), lane);
            s.is("no items", x.row(0, 0), 8);
            s.is("16 items", x.row(7, 16), 9);
            s.is("rows", x.count(3), 10);
        });
        s.hold("Promise 15", "BAD: LANE, n above 16;", () -> {
            FamilyFields x = new FamilyFields();
            s.all("no lanes", -1, x.row(-1, 0), x.row(8, 0), x.row(LEAST, 0), x.row(MOST, 0));
            s.all("above 16", -1, x.row(0, 17), x.row(0, MOST));
            s.is("no lane is ahead of n below 0", x.row(8, -1), -1);
            s.is("rows", x.count(3), 0);
        });
        s.hold("Promise 15", "FULL: 40 were made by row() in this BUILD;", () -> {
            FamilyFields x = new FamilyFields();
            x.record();
            x.part(0, 'a', 10, 0, 0);
            x.row(0, 1);
            x.keep(x.make(0));
            x.build();
            for (int i = 0; i < 20; i++) s.is("row", x.row(0, 0), i);
            s.all("refused ones are not made", -1, x.row(0, 17), x.row(8, 0));
            s.is("nor those below 0", x.row(0, -1), -14);
            x.load(0);
            s.is("a loaded one is not made by row()", x.count(3), 21);
            for (int i = 21; i < 41; i++) s.is("row", x.row(0, 0), i);
            s.is("a forty-first", x.row(0, 0), -3);
            s.is("FULL ahead of n below 0", x.row(0, -1), -3);
            s.is("BAD ahead of FULL", x.row(0, 17), -1);
            s.is("rows", x.count(3), 41);
            x.build();
            s.is("in a new build", x.row(0, 0), 0);
        });
        s.hold("Promise 15", "-14: n is below 0.", () -> {
            FamilyFields x = new FamilyFields();
            s.all("below 0", -14, x.row(0, -1), x.row(7, LEAST));
            s.is("rows", x.count(3), 0);
            s.is("it is no cause", x.cause(0), 0);
        });
    }

    private static void put() {
        s.hold("Promise 16", "An ITEM by BITS: 1.", () -> {
            FamilyFields x = new FamilyFields();
            x.row(1, 16);
            s.is("the first", x.put(0, 0, 128), 1);
            s.is("the last", x.put(0, 15, -129), 1);
            s.is("as a byte", x.item(0, 0), -128);
            s.is("as a byte", x.item(0, 15), 127);
            s.is("the others stay", x.item(0, 1), 0);
            s.is("again", x.put(0, 0, 256), 1);
            s.is("as a byte", x.item(0, 0), 0);
        });
        s.hold("Promise 16", "BAD: the ROW;", () -> {
            FamilyFields x = new FamilyFields();
            s.is("there is none", x.put(0, 0, 1), -1);
            x.row(4, 1);
            s.all("no such", -1, x.put(1, 0, 1), x.put(-1, 0, 1), x.put(LEAST, 0, 1), x.put(MOST, 0, 1));
            s.is("no row is ahead of no item", x.put(1, 1, 1), -1);
            s.is("nothing was put", x.item(0, 0), 0);
        });
        s.hold("Promise 16", "-15: it has no such ITEM.", () -> {
            FamilyFields x = new FamilyFields();
            x.row(4, 0);
            x.row(4, 1);
            x.row(4, 16);
            s.is("of none", x.put(0, 0, 1), -15);
            s.all("of one", -15, x.put(1, 1, 1), x.put(1, -1, 1), x.put(1, LEAST, 1), x.put(1, MOST, 1));
            s.all("of sixteen", -15, x.put(2, 16, 1), x.put(2, -1, 1));
            s.is("it is no cause", x.cause(0), 0);
        });
    }

    private static void itemAndSize() {
        s.hold("Promise 17", "BITS of an ITEM;", () -> {
            long[] bits = {7, 128, 32768, -1, 1L << 31, Long.MIN_VALUE, 0x7f800001, 0x7ff0000000000001L};
            long[] items = {1, -128, -32768, 65535, LEAST, Long.MIN_VALUE, 0x7fc00000, 0x7ff8000000000000L};
            FamilyFields x = new FamilyFields();
            for (int lane = 0; lane <= 7; lane++) {
                x.row(lane, 1);
                s.is("at first", x.item(lane, 0), 0);
                x.put(lane, 0, bits[lane]);
                s.is("of lane " + lane, x.item(lane, 0), items[lane]);
            }
        });
        s.hold("Promise 17", "0: there is none.", () -> {
            FamilyFields x = new FamilyFields();
            s.is("no row", x.item(0, 0), 0);
            x.row(4, 16);
            for (int i = 0; i < 16; i++) x.put(0, i, 9);
            s.all("no item", 0, x.item(0, -1), x.item(0, 16), x.item(0, LEAST), x.item(0, MOST));
            s.all("no row", 0, x.item(-1, 0), x.item(1, 0), x.item(LEAST, 0), x.item(MOST, 0));
            x.build();
            s.is("a row that went", x.item(0, 0), 0);
            x.row(4, 8);
            s.is("an item of a row that went", x.item(0, 8), 0);
        });
        s.hold("Promise 18", "How many ITEMS a ROW has.", () -> {
            FamilyFields x = new FamilyFields();
            for (int n = 0; n <= 16; n++) s.is("size", x.size(x.row(3, n)), n);
        });
        s.hold("Promise 18", "BAD.", () -> {
            FamilyFields x = new FamilyFields();
            s.is("there is none", x.size(0), -1);
            x.row(0, 3);
            s.all("no such", -1, x.size(1), x.size(-1), x.size(LEAST), x.size(MOST));
            x.build();
            s.is("it went", x.size(0), -1);
        });
    }

    private static void give() {
        s.hold("Promise 19", "Number k of THE DRAFT: 1.", () -> {
            FamilyFields x = new FamilyFields();
            Sentences.record(x, 5, 5, 5, 5, 5, 5);
            for (int k = 0; k <= 5; k++) s.is("give(" + k + ")", x.give(k, Long.MIN_VALUE + k), 1);
            x.make(0);
            for (int k = 0; k <= 5; k++) s.is("part " + k, x.told(0, k), Long.MIN_VALUE + k);
            x.give(5, 1);
            x.make(0);
            s.is("it alone", x.told(1, 5), 1);
            s.is("not another one", x.told(1, 4), Long.MIN_VALUE + 4);
            s.is("nor the object before", x.told(0, 5), Long.MIN_VALUE + 5);
        });
        s.hold("Promise 19", "BAD: k is not 0 .. 5.", () -> {
            FamilyFields x = new FamilyFields();
            s.all("not such", -1, x.give(-1, 1), x.give(6, 1), x.give(LEAST, 1), x.give(MOST, 1));
            Sentences.record(x, 5, 5, 5, 5, 5, 5);
            x.make(0);
            for (int k = 0; k <= 5; k++) s.is("part " + k, x.told(0, k), 0);
        });
    }

    private static void makeOfRecords() {
        s.hold("Promise 20", "An OBJECT of a RECORD is MADE of THE DRAFT: its number.", () -> {
            FamilyFields x = new FamilyFields();
            x.record();
            Sentences.record(x, 0, 1, 2, 3, 4, 6);
            s.is("of no parts", x.make(0), 0);
            s.is("of six", Sentences.make(x, 1, -1, -1, -1, -1, -1, -1), 1);
            long[] parts = {1, -1, -1, 65535, -1, 0x7fc00000};
            for (int p = 0; p < 6; p++) s.is("part " + p, x.told(1, p), parts[p]);
            s.is("the draft is still there", x.make(1), 2);
            s.is("part 3", x.told(2, 3), 65535);
        });
        s.hold("Promise 20", "BAD: the RECORD,", () -> {
            FamilyFields x = new FamilyFields();
            s.is("there is none", x.make(0), -1);
            x.record();
            s.all("no such", -1, x.make(1), x.make(-1), x.make(6), x.make(LEAST), x.make(MOST));
            s.is("objects", x.count(4), 0);
            s.is("it is no cause", x.cause(0), 0);
        });
        s.hold("Promise 20", "or a number of a PART of SORT 8 (-1 or an ORDINAL),", () -> {
            FamilyFields x = new FamilyFields();
            x.enumeration();
            Sentences.enumeration(x, "ab");
            x.record();
            x.part(0, 'a', 8, 0, 0);
            x.record();
            x.part(1, 'a', 4, 0, 0);
            x.part(1, 'b', 8, 1, 0);
            s.is("of no constants", Sentences.make(x, 0, 0), -1);
            s.is("none of no constants", Sentences.make(x, 0, -1), 0);
            for (int i = -1; i < 2; i++) s.is("of " + i, Sentences.make(x, 1, 0, i), i + 2);
            for (long bits : new long[] {-2, 2, 1L << 32, Long.MIN_VALUE, Long.MAX_VALUE}) {
                s.is("of " + bits, Sentences.make(x, 1, 0, bits), -1);
            }
            x.build();
            Sentences.make(x, 1, 0, 2);
            s.is("nothing starts by that", x.started(0), -1);
            s.is("parts that there are not are not asked", Sentences.make(x, 0, -1, 9, 9, 9, 9, 9), 0);
        });
        s.hold("Promise 20", "9 (a sum of those),", () -> {
            FamilyFields x = new FamilyFields();
            x.enumeration();
            Sentences.enumeration(x, "abc");
            x.record();
            x.part(0, 'a', 9, 0, 0);
            x.record();
            x.part(1, 'a', 9, 1, 0);
            s.all("of no constants", -1, Sentences.make(x, 0, 1), Sentences.make(x, 0, -1));
            s.is("of none", Sentences.make(x, 0, 0), 0);
            for (int set = 0; set < 8; set++) s.is("of " + set, Sentences.make(x, 1, set), set + 1);
            for (long bits : new long[] {8, 9, 15, -1, 1L << 32, Long.MIN_VALUE, Long.MAX_VALUE}) {
                s.is("of " + bits, Sentences.make(x, 1, bits), -1);
            }
        });
    }

    private static void makeOfOthers() {
        s.hold("Promise 20", "10 (-1, or a ROW of that LANE),", () -> {
            FamilyFields x = new FamilyFields();
            x.record();
            x.part(0, 'a', 10, 3, 0);
            s.is("there is none", Sentences.make(x, 0, 0), -1);
            x.row(2, 1);
            x.row(3, 0);
            x.row(4, 1);
            s.all("of another lane", -1, Sentences.make(x, 0, 0), Sentences.make(x, 0, 2));
            s.is("of that lane", Sentences.make(x, 0, 1), 0);
            s.is("none", Sentences.make(x, 0, -1), 1);
            for (long bits : new long[] {3, -2, (1L << 32) + 1, Long.MIN_VALUE, Long.MAX_VALUE}) {
                s.is("of " + bits, Sentences.make(x, 0, bits), -1);
            }
            x.build();
            s.is("it went", Sentences.make(x, 0, 1), -1);
        });
        s.hold("Promise 20", "11 (-1, or an OBJECT of that FAMILY) that is none such;", () -> {
            FamilyFields x = new FamilyFields();
            x.record();
            x.record();
            Sentences.family(x, 1);
            x.family();
            x.permit(1, true, 0);
            x.family();
            x.record();
            x.part(2, 'a', 11, 1, 0);
            x.record();
            x.part(3, 'a', 11, 2, 0);
            s.is("there is none", Sentences.make(x, 2, 0), -1);
            x.make(0);
            x.make(1);
            s.is("of none of the family", Sentences.make(x, 2, 0), -1);
            s.is("of the family, through a family", Sentences.make(x, 2, 1), 2);
            s.is("none", Sentences.make(x, 2, -1), 3);
            s.all("of a family without leaves", -1, Sentences.make(x, 3, 0), Sentences.make(x, 3, 1));
            s.is("none of that", Sentences.make(x, 3, -1), 4);
            for (long bits : new long[] {5, -2, (1L << 32) + 1, Long.MIN_VALUE, Long.MAX_VALUE}) {
                s.is("of " + bits, Sentences.make(x, 2, bits), -1);
            }
        });
    }

    private static void makeAnswers() {
        s.hold("Promise 20", "FULL: 100 were made by make() in this BUILD;", () -> {
            FamilyFields x = new FamilyFields();
            Sentences.record(x, 4);
            x.check(0, 0, 2, 0, 0);
            x.keep(Sentences.make(x, 0, 1));
            x.build();
            s.is("a loaded one is not made by make()", x.load(0), 0);
            s.all("nor one that failed", -13, Sentences.make(x, 0, 0), Sentences.make(x, 0, 0));
            s.is("nor a refused one", x.make(1), -1);
            x.give(0, 1);
            for (int i = 1; i <= 100; i++) s.is("make", x.make(0), i);
            s.is("one more", x.make(0), -3);
            s.is("FULL ahead of a code", Sentences.make(x, 0, 0), -3);
            s.is("objects", x.count(4), 101);
            x.build();
            for (int i = 0; i < 100; i++) s.is("in a new build", Sentences.make(x, 0, 1), i);
            s.is("one more", x.make(0), -3);
            s.is("load has room", x.load(0), 100);
        });
        s.hold("Promise 20", "-10 less the code.", () -> {
            s.is("1 ARGUMENT", thrown(4, 0, 1, 1, 0), -11);
            s.is("2 NULL", thrown(8, 1, 0, 0, -1), -12);
            s.is("3 ZERO", thrown(4, 2, 0, 0, 0), -13);
            s.is("4 SIZE", thrown(4, 3, 0, 0, -1), -14);
            s.is("5 INDEX", thrown(10, 4, 1, 0, 0), -15);
            s.is("6 CAST", thrown(11, 5, 1, 0, 0), -16);
            s.is("7 STORE", thrown(8, 6, 0, 0, 0), -17);
            FamilyFields x = new FamilyFields();
            Sentences.enumeration(x, "a");
            Sentences.record(x, 9);
            x.fails(0, true);
            s.is("9 INIT", Sentences.make(x, 0, 1), -19);
            s.is("10 NOT", Sentences.make(x, 0, 1), -20);
        });
    }

    /** What make() answers for a part of a sort with a check, where there is one constant, a row and an object of record 0. */
    private static int thrown(int sort, int check, long a, long b, long bits) {
        FamilyFields x = new FamilyFields();
        Sentences.enumeration(x, "a");
        x.record();
        Sentences.family(x, 0);
        int record = Sentences.record(x, sort);
        x.check(record, 0, check, a, b);
        x.row(0, 1);
        x.make(0);
        return Sentences.make(x, record, bits);
    }

    /** Record 1 with an int a that must not be 0 and an int b that must be 5, which has been kept as 1, 5. */
    private static FamilyFields kept() {
        FamilyFields x = new FamilyFields();
        x.record();
        Sentences.record(x, 4, 4);
        x.check(1, 0, 2, 0, 0);
        x.check(1, 1, 0, 5, 5);
        x.keep(x.make(0));
        x.keep(Sentences.make(x, 1, 1, 5));
        x.build();
        return x;
    }

    private static void causeIs(FamilyFields x, int... cause) {
        for (int i = 0; i < cause.length; i++) s.is("cause(" + i + ")", x.cause(i), cause[i]);
    }

    private static void cause() {
        s.hold("Promise 21", "THE CAUSE of the latest make(), load() that failed by a code:", () -> {
            FamilyFields x = kept();
            s.is("make", Sentences.make(x, 1, 0, 5), -13);
            causeIs(x, 3, 1, 0, 0, -1);
            s.is("the next", Sentences.make(x, 1, 1, 6), -11);
            causeIs(x, 1, 1, 1, 1, -1);
            s.is("one that does not fail", Sentences.make(x, 1, 1, 5), 0);
            s.is("refused ones", x.make(6), -1);
            s.is("refused ones", x.load(2), -1);
            s.is("other calls", x.row(0, -1), -14);
            causeIs(x, 1, 1, 1, 1, -1);
            x.build();
            causeIs(x, 1, 1, 1, 1, -1);
            x.becomes(1, 0, 1, 0);
            s.is("load", x.load(1), -16);
            causeIs(x, 6, 1, 0, -1, 1);
            x.without(1, 0);
            s.is("a load that does not fail", x.load(1), 0);
            causeIs(x, 6, 1, 0, -1, 1);
        });
        s.hold("Promise 21", "what = 0 the code (0: none did),", () -> {
            FamilyFields x = kept();
            s.is("none did", x.cause(0), 0);
            x.enumeration();
            x.fails(0, true);
            x.named(0, 'a');
            x.work(0, 0, 0, 0);
            x.row(0, -1);
            x.make(9);
            x.load(9);
            s.is("none of those", x.cause(0), 0);
            Sentences.make(x, 1, 0, 5);
            s.is("ZERO", x.cause(0), 3);
        });
        s.hold("Promise 21", "1 the RECORD, 2 the PART,", () -> {
            FamilyFields x = new FamilyFields();
            for (int r = 0; r <= 5; r++) Sentences.record(x, 4, 4, 4, 4, 4, 4);
            for (int r = 0; r <= 5; r++) {
                x.check(r, 5 - r, 2, 0, 0);
                x.make(r);
                s.is("the record", x.cause(1), r);
                s.is("the part", x.cause(2), 5 - r);
            }
        });
        s.hold("Promise 21", "3 the CHECK (NONE: it was none),", () -> {
            FamilyFields x = new FamilyFields();
            Sentences.enumeration(x, "a");
            Sentences.record(x, 4, 8);
            for (int c = 0; c < 4; c++) x.check(0, 0, 0, c, 9);
            for (int c = 0; c < 4; c++) {
                Sentences.make(x, 0, c - 1, -1);
                s.is("the check", x.cause(3), c);
            }
            x.fails(0, true);
            s.is("INIT", Sentences.make(x, 0, 9, 0), -19);
            s.is("no check", x.cause(3), -1);
            s.is("of part 1", x.cause(2), 1);
            s.is("NOT", x.make(0), -20);
            causeIs(x, 10, 0, 1, -1, -1);
        });
    }

    private static void causeOfOthers() {
        s.hold("Promise 21", "4 the LINE that was LOADED (NONE: make()).", () -> {
            FamilyFields x = kept();
            x.check(1, 1, 0, 6, 6);
            s.is("load", x.load(1), -11);
            causeIs(x, 1, 1, 1, 2, 1);
            s.is("make", x.make(1), -11);
            causeIs(x, 1, 1, 1, 2, -1);
            FamilyFields y = new FamilyFields();
            Sentences.record(y, 4);
            Sentences.family(y, 0);
            Sentences.record(y, 11);
            Sentences.make(y, 0, 7);
            y.keep(Sentences.make(y, 1, 0));
            y.build();
            y.check(0, 0, 0, 8, 8);
            s.is("load", y.load(1), -11);
            causeIs(y, 1, 0, 0, 0, 0);
        });
        s.hold("Promise 21", "NONE of 1 to 4, if none did.", () -> {
            FamilyFields x = new FamilyFields();
            causeIs(x, 0, -1, -1, -1, -1);
            x = kept();
            causeIs(x, 0, -1, -1, -1, -1);
            x.make(0);
            x.load(1);
            causeIs(x, 0, -1, -1, -1, -1);
        });
        s.hold("Promise 21", "BAD: what: the least int.", () -> {
            FamilyFields x = new FamilyFields();
            s.all("what", LEAST, x.cause(-1), x.cause(5), x.cause(LEAST), x.cause(MOST));
        });
    }

    private static void told() {
        s.hold("Promise 22", "BITS of a PART of an OBJECT;", () -> {
            FamilyFields x = new FamilyFields();
            x.record();
            Sentences.record(x, 5, 5, 5, 5, 5, 5);
            x.make(0);
            Sentences.make(x, 1, 1, 2, 3, 4, 5, 6);
            Sentences.make(x, 1, -1, -2, -3, -4, -5, Long.MAX_VALUE);
            for (int p = 0; p < 6; p++) s.is("part " + p, x.told(1, p), p + 1);
            s.is("the last part of the last object", x.told(2, 5), Long.MAX_VALUE);
        });
        s.hold("Promise 22", "the least long: there is none such.", () -> {
            FamilyFields x = new FamilyFields();
            long none = Long.MIN_VALUE;
            s.is("no object", x.told(0, 0), none);
            Sentences.record(x, 4, 4, 4, 4, 4, 4);
            Sentences.record(x, 4);
            x.make(0);
            x.make(1);
            s.all("no object", none, x.told(2, 0), x.told(-1, 0), x.told(LEAST, 0), x.told(MOST, 0));
            s.all("no part of six", none, x.told(0, 6), x.told(0, -1), x.told(0, LEAST), x.told(0, MOST));
            s.all("no part of one", none, x.told(1, 1), x.told(1, 5), x.told(1, -1));
            x.build();
            s.is("it went", x.told(0, 0), none);
        });
    }

    private static void of() {
        s.hold("Promise 23", "The RECORD of an OBJECT.", () -> {
            FamilyFields x = new FamilyFields();
            for (int r = 0; r <= 5; r++) x.record();
            for (int r = 5; r >= 0; r--) x.make(r);
            for (int i = 0; i <= 5; i++) s.is("of(" + i + ")", x.of(i), 5 - i);
        });
        s.hold("Promise 23", "BAD.", () -> {
            FamilyFields x = new FamilyFields();
            s.is("there is none", x.of(0), -1);
            Sentences.makeOne(x);
            s.all("no such", -1, x.of(1), x.of(-1), x.of(LEAST), x.of(MOST));
            x.build();
            s.is("it went", x.of(0), -1);
        });
    }

    private static void tag() {
        s.hold("Promise 24", "The TAG of an OBJECT's RECORD in a FAMILY;", () -> {
            FamilyFields x = new FamilyFields();
            for (int r = 0; r <= 5; r++) x.record();
            Sentences.family(x, 5, 4, 3, 2);
            x.family();
            x.permit(1, false, 1);
            x.permit(1, true, 0);
            x.permit(1, false, 0);
            for (int r = 0; r <= 5; r++) x.make(r);
            int[] first = {-1, -1, 3, 2, 1, 0}, second = {5, 0, 4, 3, 2, 1};
            for (int r = 2; r <= 5; r++) s.is("tag(" + r + ", 0)", x.tag(r, 0), first[r]);
            for (int r = 0; r <= 5; r++) s.is("tag(" + r + ", 1)", x.tag(r, 1), second[r]);
        });
        s.hold("Promise 24", "NONE: it is none of it.", () -> {
            FamilyFields x = new FamilyFields();
            x.record();
            x.record();
            Sentences.family(x, 1);
            x.family();
            x.make(0);
            s.is("of one leaf", x.tag(0, 0), -1);
            s.is("of no leaves", x.tag(0, 1), -1);
        });
        s.hold("Promise 24", "BAD.", () -> {
            FamilyFields x = new FamilyFields();
            s.is("there is nothing", x.tag(0, 0), -1);
            x.record();
            Sentences.family(x, 0);
            x.make(0);
            s.all("no object", -1, x.tag(1, 0), x.tag(-1, 0), x.tag(LEAST, 0), x.tag(MOST, 0));
            s.all("no family", -1, x.tag(0, 1), x.tag(0, -1), x.tag(0, LEAST), x.tag(0, MOST));
            s.is("both are there", x.tag(0, 0), 0);
        });
    }

    private static void same() {
        s.hold("Promise 25", "Whether two OBJECTS are THE SAME (1, 0).", () -> {
            FamilyFields x = new FamilyFields();
            Sentences.record(x, 4, 4, 4, 4, 4, 4);
            x.make(0);
            Sentences.make(x, 0, 0, 0, 0, 0, 0, 1);
            Sentences.make(x, 0, 1, 0, 0, 0, 0, 0);
            Sentences.make(x, 0, 0);
            s.is("itself", x.same(0, 0), 1);
            s.is("alike", x.same(0, 3), 1);
            s.is("alike", x.same(3, 0), 1);
            s.is("but for the last part", x.same(0, 1), 0);
            s.is("but for the first part", x.same(0, 2), 0);
            Sentences.make(x, 0, 1);
            s.is("an object made after that", x.same(2, 4), 1);
            x.build();
            Sentences.make(x, 0, 8);
            Sentences.make(x, 0, 8);
            Sentences.make(x, 0, 9);
            Sentences.make(x, 0, 10);
            s.is("in a new build, those that were not", x.same(0, 1), 1);
            s.is("in a new build, those that were", x.same(0, 3), 0);
        });
        s.hold("Promise 25", "BAD.", () -> {
            FamilyFields x = new FamilyFields();
            s.is("there is none", x.same(0, 0), -1);
            Sentences.makeOne(x);
            s.all("no a", -1, x.same(1, 0), x.same(-1, 0), x.same(LEAST, 0), x.same(MOST, 0));
            s.all("no b", -1, x.same(0, 1), x.same(0, -1), x.same(0, LEAST), x.same(0, MOST));
            s.all("neither", -1, x.same(1, 1), x.same(-1, -1));
        });
    }
}
