/** Promises 1 to 14 by their own words: what each call of the types answers at its edges, and what it refuses. */
public final class TypesPromisesTest {
    private static final Sentences s = new Sentences("Promise 1", "Promise 2", "Promise 3", "Promise 4", "Promise 5", "Promise 6",
            "Promise 7", "Promise 8", "Promise 9", "Promise 10", "Promise 11", "Promise 12", "Promise 13", "Promise 14");
    private static final int MOST = Integer.MAX_VALUE, LEAST = Integer.MIN_VALUE;

    public static void main(String[] args) {
        aNewObject();
        enumeration();
        constant();
        exchange();
        forget();
        fails();
        family();
        permit();
        record();
        part();
        without();
        becomes();
        check();
        build();
        s.end();
    }

    private static void aNewObject() {
        s.hold("Promise 1", "No TYPES, ROWS, OBJECTS, LINES; BUILD 0.", () -> {
            FamilyFields x = new FamilyFields();
            for (int what = 0; what <= 7; what++) s.is("count(" + what + ")", x.count(what), 0);
            for (int what = 0; what <= 4; what++) s.is("about(0, " + what + ")", x.about(0, what), -1);
            for (int what = 0; what <= 3; what++) s.is("line(0, " + what + ")", x.line(0, what), -1);
            s.all("nothing there", -1, x.size(0), x.of(0), x.tag(0, 0), x.same(0, 0), x.named(0, 'a'), x.keep(0), x.load(0),
                    x.make(0), x.put(0, 0, 0), x.started(0), x.exchange(0, 0, 0), x.fails(0, true), x.permit(0, false, 0));
            s.all("nothing there", Long.MIN_VALUE, x.told(0, 0), x.work(0, 0, 0, 0));
            s.is("item(0, 0)", x.item(0, 0), 0);
            s.is("cause(0)", x.cause(0), 0);
            s.is("build()", x.build(), 0);
        });
    }

    private static void enumeration() {
        s.hold("Promise 2", "An ENUMERATION: its number.", () -> {
            FamilyFields x = new FamilyFields();
            for (int e = 0; e <= 3; e++) s.is("enumeration()", x.enumeration(), e);
            for (int e = 0; e <= 3; e++) s.is("without constants", x.about(e, 0), 0);
        });
        s.hold("Promise 2", "STATE;", () -> {
            FamilyFields x = new FamilyFields();
            Sentences.makeOne(x);
            s.is("with an object", x.enumeration(), -2);
            s.is("there are none", x.count(0), 0);
            x.build();
            s.is("without", x.enumeration(), 0);
        });
        s.hold("Promise 2", "FULL.", () -> {
            FamilyFields x = new FamilyFields();
            for (int e = 0; e <= 3; e++) x.enumeration();
            s.is("a fifth", x.enumeration(), -3);
            s.is("there are four", x.count(0), 4);
            x.build();
            s.is("in a new build, too", x.enumeration(), -3);
        });
    }

    private static void constant() {
        s.hold("Promise 3", "A CONSTANT behind the others: its ORDINAL.", () -> {
            FamilyFields x = new FamilyFields();
            x.enumeration();
            for (int i = 0; i < 8; i++) s.is("constant", x.constant(0, 'h' - i, i % 2 == 0), i);
            for (int i = 0; i < 8; i++) s.is("named", x.named(0, 'h' - i), i);
            x.forget(0, 0);
            s.is("behind the others, though its name was ahead", x.constant(0, 'h', false), 7);
        });
        s.hold("Promise 3", "BAD: the ENUMERATION,", () -> {
            FamilyFields x = new FamilyFields();
            s.is("there is none", x.constant(0, 'a', false), -1);
            x.enumeration();
            s.all("not such", -1, x.constant(-1, 'a', false), x.constant(1, 'a', false), x.constant(LEAST, 'a', true), x.constant(MOST, 'a', true));
            s.is("constants", x.about(0, 0), 0);
        });
        s.hold("Promise 3", "no NAME,", () -> {
            FamilyFields x = new FamilyFields();
            x.enumeration();
            s.all("no names", -1, x.constant(0, 0, false), x.constant(0, -1, false), x.constant(0, '`', false), x.constant(0, '{', false),
                    x.constant(0, 0x6100, false), x.constant(0, 0x610061, false), x.constant(0, Long.MIN_VALUE + 'a', false));
            s.is("constants", x.about(0, 0), 0);
        });
        s.hold("Promise 3", "one that is there;", () -> {
            FamilyFields x = new FamilyFields();
            Sentences.enumeration(x, "ab");
            Sentences.enumeration(x, "c");
            s.all("the first, the last", -1, x.constant(0, 'a', false), x.constant(0, 'b', true));
            s.is("one of another enumeration", x.constant(0, 'c', false), 2);
            x.forget(0, 0);
            s.is("one that went", x.constant(0, 'a', false), 2);
        });
        s.hold("Promise 3", "STATE;", () -> {
            FamilyFields x = new FamilyFields();
            Sentences.enumeration(x, "a");
            Sentences.makeOne(x);
            s.is("with an object", x.constant(0, 'b', false), -2);
            s.is("BAD is ahead of it", x.constant(0, 'a', false), -1);
            s.is("constants", x.about(0, 0), 1);
        });
        s.hold("Promise 3", "FULL.", () -> {
            FamilyFields x = new FamilyFields();
            Sentences.enumeration(x, "abcdefgh");
            s.is("a ninth", x.constant(0, 'i', false), -3);
            s.is("BAD is ahead of it", x.constant(0, 'h', false), -1);
            s.is("constants", x.about(0, 0), 8);
            x.forget(0, 7);
            s.is("room again", x.constant(0, 'i', false), 7);
        });
    }

    private static void exchange() {
        s.hold("Promise 4", "Two CONSTANTS change places: 1.", () -> {
            FamilyFields x = new FamilyFields();
            Sentences.enumeration(x, "AbcdefgH");
            s.is("the first and the last", x.exchange(0, 0, 7), 1);
            s.is("a", x.named(0, 'a'), 7);
            s.is("h", x.named(0, 'h'), 0);
            s.is("b", x.named(0, 'b'), 1);
            s.is("two next to each other", x.exchange(0, 1, 0), 1);
            s.is("the body goes with its constant", x.work(0, 1, 0, 1), 5);
            s.is("and not with its place", x.work(0, 0, 0, 1), 1);
            s.is("one with itself", x.exchange(0, 3, 3), 1);
            s.is("d", x.named(0, 'd'), 3);
        });
        s.hold("Promise 4", "BAD;", () -> {
            FamilyFields x = new FamilyFields();
            Sentences.enumeration(x, "ab");
            x.enumeration();
            s.all("no enumeration", -1, x.exchange(-1, 0, 1), x.exchange(2, 0, 1), x.exchange(LEAST, 0, 0), x.exchange(MOST, 0, 0));
            s.all("no constant a", -1, x.exchange(0, -1, 1), x.exchange(0, 2, 1), x.exchange(0, LEAST, 1), x.exchange(0, MOST, 1));
            s.all("no constant b", -1, x.exchange(0, 1, -1), x.exchange(0, 1, 2), x.exchange(0, 1, LEAST), x.exchange(0, 1, MOST));
            s.is("none at all", x.exchange(1, 0, 0), -1);
            s.is("a", x.named(0, 'a'), 0);
        });
        s.hold("Promise 4", "STATE.", () -> {
            FamilyFields x = new FamilyFields();
            Sentences.enumeration(x, "ab");
            Sentences.makeOne(x);
            s.all("with an object", -2, x.exchange(0, 0, 1), x.exchange(0, 1, 1));
            s.is("BAD is ahead of it", x.exchange(0, 0, 2), -1);
            s.is("a", x.named(0, 'a'), 0);
        });
    }

    private static void forget() {
        s.hold("Promise 5", "A CONSTANT goes, those behind it have ORDINALS less by 1: how many there are.", () -> {
            FamilyFields x = new FamilyFields();
            Sentences.enumeration(x, "abcdEfgh");
            s.is("the last", x.forget(0, 7), 7);
            s.is("the first", x.forget(0, 0), 6);
            s.is("one between", x.forget(0, 2), 5);
            String left = "bcefg";
            for (int i = 0; i < 5; i++) s.is("named", x.named(0, left.charAt(i)), i);
            s.is("one that went", x.named(0, 'd'), -18);
            s.is("bodies move along", x.work(0, 2, 0, 1), 8);
            for (int n = 4; n >= 0; n--) s.is("down to none", x.forget(0, 0), n);
        });
        s.hold("Promise 5", "BAD;", () -> {
            FamilyFields x = new FamilyFields();
            s.is("no enumeration", x.forget(0, 0), -1);
            x.enumeration();
            s.is("no constants", x.forget(0, 0), -1);
            x.constant(0, 'a', false);
            s.all("no such", -1, x.forget(0, 1), x.forget(0, -1), x.forget(0, LEAST), x.forget(0, MOST), x.forget(1, 0), x.forget(-1, 0));
            s.is("constants", x.about(0, 0), 1);
        });
        s.hold("Promise 5", "STATE.", () -> {
            FamilyFields x = new FamilyFields();
            Sentences.enumeration(x, "a");
            Sentences.makeOne(x);
            s.is("with an object", x.forget(0, 0), -2);
            s.is("BAD is ahead of it", x.forget(0, 1), -1);
            s.is("constants", x.about(0, 0), 1);
        });
    }

    private static void fails() {
        s.hold("Promise 6", "Whether the START of an ENUMERATION fails: whether it did before (1, 0).", () -> {
            FamilyFields x = new FamilyFields();
            Sentences.enumeration(x, "a");
            s.is("not at first", x.fails(0, false), 0);
            s.is("nor then", x.fails(0, true), 0);
            s.is("it does", x.fails(0, true), 1);
            s.is("it does still", x.fails(0, false), 1);
            s.is("not any more", x.fails(0, false), 0);
            s.is("its start", x.named(0, 'a'), 0);
            x.fails(0, true);
            s.is("it has started", x.named(0, 'a'), 0);
            x.build();
            s.is("its start in a new build", x.named(0, 'a'), -19);
        });
        s.hold("Promise 6", "BAD;", () -> {
            FamilyFields x = new FamilyFields();
            s.is("no enumeration", x.fails(0, true), -1);
            x.enumeration();
            s.all("no such", -1, x.fails(1, true), x.fails(-1, true), x.fails(LEAST, true), x.fails(MOST, true));
            s.is("nothing was told", x.fails(0, false), 0);
        });
        s.hold("Promise 6", "STATE.", () -> {
            FamilyFields x = new FamilyFields();
            x.enumeration();
            Sentences.makeOne(x);
            s.all("with an object", -2, x.fails(0, true), x.fails(0, false));
            s.is("BAD is ahead of it", x.fails(1, true), -1);
            x.build();
            s.is("nothing was told", x.fails(0, false), 0);
        });
    }

    private static void family() {
        s.hold("Promise 7", "A FAMILY: its number.", () -> {
            FamilyFields x = new FamilyFields();
            for (int f = 0; f <= 2; f++) s.is("family()", x.family(), f);
            for (int f = 0; f <= 2; f++) s.is("without members", x.about(f, 3), 0);
        });
        s.hold("Promise 7", "STATE;", () -> {
            FamilyFields x = new FamilyFields();
            Sentences.makeOne(x);
            s.is("with an object", x.family(), -2);
            s.is("there are none", x.count(2), 0);
            x.build();
            s.is("without", x.family(), 0);
        });
        s.hold("Promise 7", "FULL.", () -> {
            FamilyFields x = new FamilyFields();
            for (int f = 0; f <= 2; f++) x.family();
            s.is("a fourth", x.family(), -3);
            s.is("there are three", x.count(2), 3);
        });
    }

    private static void permit() {
        s.hold("Promise 8", "A MEMBER more, a RECORD, or (isFamily) a FAMILY: how many.", () -> {
            FamilyFields x = new FamilyFields();
            x.family();
            x.family();
            for (int r = 0; r <= 5; r++) x.record();
            s.is("record 0", x.permit(1, false, 0), 1);
            s.is("family 0", x.permit(1, true, 0), 2);
            s.is("record 5", x.permit(1, false, 5), 3);
            s.is("leaves", x.about(1, 4), 2);
            s.is("members", x.about(1, 3), 3);
        });
        s.hold("Promise 8", "BAD: no FAMILY,", () -> {
            FamilyFields x = new FamilyFields();
            x.record();
            s.is("there is none", x.permit(0, false, 0), -1);
            x.family();
            s.all("no such", -1, x.permit(1, false, 0), x.permit(-1, false, 0), x.permit(LEAST, false, 0), x.permit(MOST, false, 0));
        });
        s.hold("Promise 8", "no such RECORD,", () -> {
            FamilyFields x = new FamilyFields();
            x.family();
            s.is("there is none", x.permit(0, false, 0), -1);
            x.record();
            s.all("no such", -1, x.permit(0, false, 1), x.permit(0, false, -1), x.permit(0, false, LEAST), x.permit(0, false, MOST));
            s.is("members", x.about(0, 3), 0);
        });
        s.hold("Promise 8", "no FAMILY of a lesser number,", () -> {
            FamilyFields x = new FamilyFields();
            for (int f = 0; f <= 2; f++) x.family();
            s.all("of 0", -1, x.permit(0, true, 0), x.permit(0, true, 1), x.permit(0, true, -1));
            s.all("of 1", -1, x.permit(1, true, 1), x.permit(1, true, 2), x.permit(1, true, -1));
            s.all("of 2", -1, x.permit(2, true, 2), x.permit(2, true, 3), x.permit(2, true, LEAST), x.permit(2, true, MOST));
            s.is("the least", x.permit(2, true, 0), 1);
            s.is("the next lesser", x.permit(2, true, 1), 2);
        });
        s.hold("Promise 8", "it is a MEMBER already;", () -> {
            FamilyFields x = new FamilyFields();
            x.family();
            x.family();
            x.record();
            x.permit(1, true, 0);
            s.is("a record of the family's number is none", x.permit(1, false, 0), 2);
            s.all("already", -1, x.permit(1, true, 0), x.permit(1, false, 0));
            FamilyFields y = new FamilyFields();
            y.record();
            Sentences.family(y, 0);
            y.family();
            y.permit(1, true, 0);
            s.is("a leaf is no member yet", y.permit(1, false, 0), 2);
        });
        s.hold("Promise 8", "STATE;", () -> {
            FamilyFields x = new FamilyFields();
            x.family();
            Sentences.makeOne(x);
            s.is("with an object", x.permit(0, false, 0), -2);
            s.is("BAD is ahead of it", x.permit(0, false, 1), -1);
            s.is("members", x.about(0, 3), 0);
        });
        s.hold("Promise 8", "FULL.", () -> {
            FamilyFields x = new FamilyFields();
            for (int r = 0; r < 5; r++) x.record();
            Sentences.family(x, 0, 1, 2, 3);
            s.is("a fifth", x.permit(0, false, 4), -3);
            s.is("BAD is ahead of it", x.permit(0, false, 3), -1);
            s.is("members", x.about(0, 3), 4);
            s.is("leaves", x.about(0, 4), 4);
        });
    }

    private static void record() {
        s.hold("Promise 9", "A RECORD: its number.", () -> {
            FamilyFields x = new FamilyFields();
            for (int r = 0; r <= 5; r++) s.is("record()", x.record(), r);
            for (int r = 0; r <= 5; r++) s.all("without parts, checks", 0, x.about(r, 1), x.about(r, 2));
        });
        s.hold("Promise 9", "STATE;", () -> {
            FamilyFields x = new FamilyFields();
            Sentences.makeOne(x);
            s.is("with an object", x.record(), -2);
            s.is("there is one", x.count(1), 1);
            x.build();
            s.is("without", x.record(), 1);
        });
        s.hold("Promise 9", "FULL.", () -> {
            FamilyFields x = new FamilyFields();
            for (int r = 0; r <= 5; r++) x.record();
            s.is("a seventh", x.record(), -3);
            s.is("there are six", x.count(1), 6);
        });
    }

    private static void part() {
        s.hold("Promise 10", "A PART more: its number.", () -> {
            FamilyFields x = new FamilyFields();
            x.record();
            for (int p = 0; p <= 5; p++) s.is("part", x.part(0, 'f' - p, p, 0, 0), p);
            s.is("parts", x.about(0, 1), 6);
        });
        s.hold("Promise 10", "of: the ENUMERATION (8, 9), LANE (10), FAMILY (11), else of no matter;", () -> {
            FamilyFields x = new FamilyFields();
            for (int i = 0; i < 4; i++) x.enumeration();
            for (int i = 0; i < 3; i++) x.family();
            x.record();
            x.record();
            s.is("8 of 3", x.part(0, 'a', 8, 3, 0), 0);
            s.is("9 of 3", x.part(0, 'b', 9, 3, 0), 1);
            s.is("10 of 7", x.part(0, 'c', 10, 7, 0), 2);
            s.is("11 of 2", x.part(0, 'd', 11, 2, 0), 3);
            for (int sort = 0; sort <= 5; sort++) s.is("sort " + sort, x.part(1, 'a' + sort, sort, sort % 2 == 0 ? LEAST : MOST, 0), sort);
            s.is("6", x.part(0, 'e', 6, -1, 0), 4);
            s.is("7", x.part(0, 'f', 7, 99, 0), 5);
        });
        s.hold("Promise 10", "standard: BITS (of others than 0 to 7 of no matter).", () -> {
            FamilyFields x = new FamilyFields();
            x.enumeration();
            x.family();
            x.record();
            x.keep(x.make(0));
            x.build();
            for (int i = 0; i < 4; i++) s.is("part", x.part(0, 'a' + i, 8 + i, 0, i % 2 == 0 ? Long.MIN_VALUE : 5), i);
            x.part(0, 'e', 1, 0, 128);
            x.part(0, 'f', 0, 0, 1L << 40);
            x.load(0);
            long[] standards = {-1, 0, -1, -1, -128, 1};
            for (int i = 0; i < 6; i++) s.is("part " + i, x.told(0, i), standards[i]);
        });
        s.hold("Promise 10", "BAD: the RECORD,", () -> {
            FamilyFields x = new FamilyFields();
            s.is("there is none", x.part(0, 'a', 4, 0, 0), -1);
            x.record();
            s.all("no such", -1, x.part(1, 'a', 4, 0, 0), x.part(-1, 'a', 4, 0, 0), x.part(LEAST, 'a', 4, 0, 0), x.part(MOST, 'a', 4, 0, 0));
        });
        s.hold("Promise 10", "no NAME,", () -> {
            FamilyFields x = new FamilyFields();
            x.record();
            s.all("no names", -1, x.part(0, 0, 4, 0, 0), x.part(0, -1, 4, 0, 0), x.part(0, '`', 4, 0, 0), x.part(0, '{', 4, 0, 0),
                    x.part(0, 0x6100, 4, 0, 0), x.part(0, 0x610061, 4, 0, 0), x.part(0, Long.MIN_VALUE + 'a', 4, 0, 0));
            s.is("eight letters", x.part(0, Due.name("zzzzzzzz"), 4, 0, 0), 0);
        });
        s.hold("Promise 10", "one that is there,", () -> {
            FamilyFields x = new FamilyFields();
            Sentences.record(x, 4, 4);
            Sentences.record(x, 4, 4, 4);
            s.all("the first, the last", -1, x.part(0, 'a', 5, 0, 0), x.part(0, 'b', 4, 0, 0));
            s.is("one of another record", x.part(0, 'c', 4, 0, 0), 2);
            x.without(0, 0);
            s.is("one that went", x.part(0, 'a', 4, 0, 0), 2);
        });
        s.hold("Promise 10", "SORT, of;", () -> {
            FamilyFields x = new FamilyFields();
            x.record();
            s.all("no sorts", -1, x.part(0, 'a', -1, 0, 0), x.part(0, 'a', 12, 0, 0), x.part(0, 'a', LEAST, 0, 0), x.part(0, 'a', MOST, 0, 0));
            s.all("of nothing", -1, x.part(0, 'a', 8, 0, 0), x.part(0, 'a', 9, 0, 0), x.part(0, 'a', 11, 0, 0));
            x.enumeration();
            x.family();
            s.all("no enumerations", -1, x.part(0, 'a', 8, 1, 0), x.part(0, 'a', 8, -1, 0), x.part(0, 'a', 9, 1, 0), x.part(0, 'a', 9, -1, 0));
            s.all("no lanes", -1, x.part(0, 'a', 10, 8, 0), x.part(0, 'a', 10, -1, 0), x.part(0, 'a', 10, LEAST, 0), x.part(0, 'a', 10, MOST, 0));
            s.all("no families", -1, x.part(0, 'a', 11, 1, 0), x.part(0, 'a', 11, -1, 0), x.part(0, 'a', 11, LEAST, 0), x.part(0, 'a', 11, MOST, 0));
            s.is("parts", x.about(0, 1), 0);
        });
        s.hold("Promise 10", "STATE;", () -> {
            FamilyFields x = new FamilyFields();
            Sentences.makeOne(x);
            s.is("with an object", x.part(0, 'a', 4, 0, 0), -2);
            s.is("BAD is ahead of it", x.part(0, 'a', 12, 0, 0), -1);
            s.is("parts", x.about(0, 1), 0);
        });
        s.hold("Promise 10", "FULL.", () -> {
            FamilyFields x = new FamilyFields();
            Sentences.record(x, 4, 4, 4, 4, 4, 4);
            s.is("a seventh", x.part(0, 'g', 4, 0, 0), -3);
            s.all("BAD is ahead of it", -1, x.part(0, 'f', 4, 0, 0), x.part(0, 'g', 12, 0, 0));
            s.is("parts", x.about(0, 1), 6);
            x.without(0, 5);
            s.is("room again", x.part(0, 'g', 4, 0, 0), 5);
        });
    }

    /** Record 0 with six ints; part 1 has checks 0 and 2, part 3 check 1, part 5 check 3. */
    private static FamilyFields checkedParts() {
        FamilyFields x = new FamilyFields();
        Sentences.record(x, 4, 4, 4, 4, 4, 4);
        x.check(0, 1, 0, 5, 5);
        x.check(0, 3, 2, 0, 0);
        x.check(0, 1, 3, 0, 0);
        x.check(0, 5, 0, 7, 7);
        return x;
    }

    private static void cause(FamilyFields x, int... cause) {
        for (int i = 0; i < cause.length; i++) s.is("cause(" + i + ")", x.cause(i), cause[i]);
    }

    private static void without() {
        s.hold("Promise 11", "A PART goes, with its CHECKS;", () -> {
            FamilyFields x = checkedParts();
            s.is("part 1", x.without(0, 1), 5);
            s.is("two checks are left", x.about(0, 2), 2);
            s.is("and are the first", Sentences.make(x, 0, 0, 0, 0, 0, 0), -13);
            cause(x, 3, 0, 2, 0, -1);
            x = checkedParts();
            s.is("a part without checks", x.without(0, 0), 5);
            s.is("four checks", x.about(0, 2), 4);
        });
        s.hold("Promise 11", "those behind it have numbers less by 1: how many there are.", () -> {
            FamilyFields x = checkedParts();
            s.is("the first", x.without(0, 0), 5);
            s.is("part 1 is part 0 now", Sentences.make(x, 0, 0, 0, 1, 0, 7), -11);
            cause(x, 1, 0, 0, 0, -1);
            s.is("part 5 is part 4 now", Sentences.make(x, 0, 5, 0, 1, 0, 0), -11);
            cause(x, 1, 0, 4, 3, -1);
            s.is("part 3 is part 2 now", Sentences.make(x, 0, 5, 0, 0, 0, 7), -13);
            cause(x, 3, 0, 2, 1, -1);
            s.is("the last", x.without(0, 4), 4);
            for (int n = 3; n >= 0; n--) s.is("down to none", x.without(0, 0), n);
            s.is("no checks", x.about(0, 2), 0);
        });
        s.hold("Promise 11", "BAD;", () -> {
            FamilyFields x = new FamilyFields();
            s.is("no record", x.without(0, 0), -1);
            x.record();
            s.is("no parts", x.without(0, 0), -1);
            x.part(0, 'a', 4, 0, 0);
            s.all("no such", -1, x.without(0, 1), x.without(0, -1), x.without(0, LEAST), x.without(0, MOST), x.without(1, 0), x.without(-1, 0));
            s.is("parts", x.about(0, 1), 1);
        });
        s.hold("Promise 11", "STATE.", () -> {
            FamilyFields x = checkedParts();
            Sentences.makeOne(x);
            s.is("with an object", x.without(0, 1), -2);
            s.is("BAD is ahead of it", x.without(0, 6), -1);
            s.is("parts", x.about(0, 1), 6);
            s.is("checks", x.about(0, 2), 4);
        });
    }

    private static void becomes() {
        s.hold("Promise 12", "The SORT of a PART becomes another one (or of another of),", () -> {
            FamilyFields x = new FamilyFields();
            Sentences.enumeration(x, "a");
            Sentences.enumeration(x, "ab");
            Sentences.record(x, 4);
            x.becomes(0, 0, 8, 0);
            s.is("of enumeration 0", Sentences.make(x, 0, 1), -1);
            x.becomes(0, 0, 8, 1);
            s.is("of enumeration 1", Sentences.make(x, 0, 1), 0);
            x.build();
            x.becomes(0, 0, 10, 7);
            x.row(7, 1);
            s.is("of lane 7", Sentences.make(x, 0, 0), 0);
            s.is("its name stays", x.keep(0), 0);
            x.build();
            s.is("it is there", x.part(0, 'a', 4, 0, 0), -1);
        });
        s.hold("Promise 12", "its STANDARD of BITS 0;", () -> {
            for (int sort = 0; sort <= 11; sort++) {
                FamilyFields x = new FamilyFields();
                x.enumeration();
                x.family();
                x.record();
                x.keep(x.make(0));
                x.build();
                x.part(0, 'a', sort < 8 ? sort : 4, 0, 1);
                x.becomes(0, 0, sort, 0);
                s.is("of sort " + sort, x.told(x.load(0), 0), sort <= 7 || sort == 9 ? 0 : -1);
            }
        });
        s.hold("Promise 12", "its CHECKS go: the SORT before.", () -> {
            FamilyFields x = checkedParts();
            s.is("part 1, the same sort", x.becomes(0, 1, 4, 0), 4);
            s.is("two checks are left", x.about(0, 2), 2);
            s.is("and are the first", Sentences.make(x, 0, 0, 0, 0, 0, 0, 0), -13);
            cause(x, 3, 0, 3, 0, -1);
            for (int sort = 0; sort <= 7; sort++) s.is("part 5", x.becomes(0, 5, sort, 0), sort == 0 ? 4 : sort - 1);
            s.is("a row", x.becomes(0, 5, 10, 0), 7);
            s.is("of another lane", x.becomes(0, 5, 10, 1), 10);
            s.is("one check is left", x.about(0, 2), 1);
        });
        s.hold("Promise 12", "BAD: also of;", () -> {
            FamilyFields x = new FamilyFields();
            s.is("no record", x.becomes(0, 0, 4, 0), -1);
            x.record();
            s.is("no parts", x.becomes(0, 0, 4, 0), -1);
            x.part(0, 'a', 4, 0, 0);
            x.check(0, 0, 0, 0, 0);
            s.all("no records", -1, x.becomes(1, 0, 4, 0), x.becomes(-1, 0, 4, 0));
            s.all("no such parts", -1, x.becomes(0, 1, 4, 0), x.becomes(0, -1, 4, 0), x.becomes(0, LEAST, 4, 0), x.becomes(0, MOST, 4, 0));
            s.all("no sorts", -1, x.becomes(0, 0, 12, 0), x.becomes(0, 0, -1, 0), x.becomes(0, 0, LEAST, 0), x.becomes(0, 0, MOST, 0));
            s.all("of nothing", -1, x.becomes(0, 0, 8, 0), x.becomes(0, 0, 9, 0), x.becomes(0, 0, 11, 0), x.becomes(0, 0, 10, 8),
                    x.becomes(0, 0, 10, -1));
            x.enumeration();
            x.family();
            s.all("of none such", -1, x.becomes(0, 0, 8, 1), x.becomes(0, 0, 9, -1), x.becomes(0, 0, 11, 1), x.becomes(0, 0, 11, -1));
            s.is("its check is there", x.about(0, 2), 1);
        });
        s.hold("Promise 12", "STATE.", () -> {
            FamilyFields x = checkedParts();
            Sentences.makeOne(x);
            s.is("with an object", x.becomes(0, 1, 5, 0), -2);
            s.is("BAD is ahead of it", x.becomes(0, 1, 8, 0), -1);
            s.is("checks", x.about(0, 2), 4);
            x.build();
            s.is("the sort", x.becomes(0, 1, 5, 0), 4);
        });
    }

    private static void check() {
        s.hold("Promise 13", "A CHECK more: how many.", () -> {
            FamilyFields x = new FamilyFields();
            Sentences.record(x, 4, 4);
            for (int c = 1; c <= 4; c++) s.is("check", x.check(0, c % 2, 0, 0, 0), c);
            s.is("checks", x.about(0, 2), 4);
        });
        s.hold("Promise 13", "BAD: RECORD, PART,", () -> {
            FamilyFields x = new FamilyFields();
            s.is("no record", x.check(0, 0, 0, 0, 0), -1);
            x.record();
            s.is("no parts", x.check(0, 0, 0, 0, 0), -1);
            x.part(0, 'a', 4, 0, 0);
            s.all("no records", -1, x.check(1, 0, 0, 0, 0), x.check(-1, 0, 0, 0, 0), x.check(LEAST, 0, 0, 0, 0), x.check(MOST, 0, 0, 0, 0));
            s.all("no parts", -1, x.check(0, 1, 0, 0, 0), x.check(0, -1, 0, 0, 0), x.check(0, LEAST, 0, 0, 0), x.check(0, MOST, 0, 0, 0));
            s.is("checks", x.about(0, 2), 0);
        });
        s.hold("Promise 13", "check (0 .. 6), or it is none of the PART's SORT", () -> {
            FamilyFields x = new FamilyFields();
            x.enumeration();
            x.family();
            Sentences.record(x, 4);
            s.all("no checks", -1, x.check(0, 0, -1, 0, 0), x.check(0, 0, 7, 0, 0), x.check(0, 0, LEAST, 0, 0), x.check(0, 0, MOST, 0, 0));
            int[] sorts = {0x0ff, 0xd00, 0x03e, 0x01e, 0x400, 0x800, 0x100};
            for (int sort = 0; sort <= 11; sort++) {
                for (int check = 0; check <= 6; check++) {
                    x.becomes(0, 0, sort, 0);
                    s.is("check " + check + " of sort " + sort, x.check(0, 0, check, 0, 0), (sorts[check] >> sort & 1) != 0 ? 1 : -1);
                }
            }
        });
        s.hold("Promise 13", "(a, b are not asked);", () -> {
            FamilyFields x = new FamilyFields();
            x.family();
            Sentences.record(x, 4, 10, 11);
            s.is("BETWEEN the most and the least", x.check(0, 0, 0, Long.MAX_VALUE, Long.MIN_VALUE), 1);
            s.is("DIVIDES 0", x.check(0, 0, 2, 0, 0), 2);
            s.is("ITEM -1", x.check(0, 1, 4, -1, Long.MAX_VALUE), 3);
            s.is("OF RECORD, one that there is not", x.check(0, 2, 5, Long.MIN_VALUE, 0), 4);
        });
        s.hold("Promise 13", "STATE;", () -> {
            FamilyFields x = new FamilyFields();
            Sentences.record(x, 4);
            Sentences.makeOne(x);
            s.is("with an object", x.check(0, 0, 0, 0, 0), -2);
            s.is("BAD is ahead of it", x.check(0, 0, 1, 0, 0), -1);
            s.is("checks", x.about(0, 2), 0);
        });
        s.hold("Promise 13", "FULL.", () -> {
            FamilyFields x = checkedParts();
            s.is("a fifth", x.check(0, 0, 0, 0, 0), -3);
            s.is("BAD is ahead of it", x.check(0, 0, 1, 0, 0), -1);
            s.is("checks", x.about(0, 2), 4);
            x.without(0, 3);
            s.is("room again", x.check(0, 0, 0, 0, 0), 4);
        });
    }

    private static void build() {
        s.hold("Promise 14", "BUILD: how many OBJECTS there were.", () -> {
            FamilyFields x = new FamilyFields();
            x.record();
            s.is("none", x.build(), 0);
            x.keep(x.make(0));
            s.is("one", x.build(), 1);
            for (int i = 0; i < 100; i++) x.make(0);
            x.load(0);
            s.is("a hundred made and one loaded", x.build(), 101);
            s.is("none again", x.build(), 0);
            s.is("the build", x.count(6), 4);
        });
        // The object is used beyond its 512 calls here, where answers are free; this class tells them all the same.
        s.hold("Promise 14", "FULL: it was BUILD 1000.", () -> {
            FamilyFields x = new FamilyFields();
            x.record();
            for (int b = 0; b < 1000; b++) s.is("build " + b, x.build(), 0);
            x.make(0);
            s.is("it is build 1000", x.build(), -3);
            s.is("and stays so", x.count(6), 1000);
            s.is("its objects stay", x.count(4), 1);
        });
    }
}
