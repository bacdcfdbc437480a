/** Promises 26 to 35 by their own words: constants, who started, the table and what can be counted, each at its edges. */
public final class TablePromisesTest {
    private static final Sentences s = new Sentences("Promise 26", "Promise 27", "Promise 28", "Promise 29", "Promise 30",
            "Promise 31", "Promise 32", "Promise 33", "Promise 34", "Promise 35");
    private static final int MOST = Integer.MAX_VALUE, LEAST = Integer.MIN_VALUE;

    public static void main(String[] args) {
        named();
        work();
        started();
        keep();
        load();
        line();
        word();
        range();
        count();
        about();
        s.end();
    }

    private static void named() {
        s.hold("Promise 26", "The ORDINAL of a NAME: the ENUMERATION STARTS.", () -> {
            FamilyFields x = new FamilyFields();
            Sentences.enumeration(x, "abcdefgh");
            x.constant(x.enumeration(), Due.name("zzzzzzzz"), false);
            s.is("the first", x.named(0, 'a'), 0);
            s.is("it started", x.started(0), 10);
            s.is("the last", x.named(0, 'h'), 7);
            s.is("of eight letters", x.named(1, Due.name("zzzzzzzz")), 0);
            s.is("the other started", x.started(1), 11);
        });
        s.hold("Promise 26", "BAD: the ENUMERATION;", () -> {
            FamilyFields x = new FamilyFields();
            s.is("there is none", x.named(0, 'a'), -1);
            Sentences.enumeration(x, "a");
            s.all("no such", -1, x.named(1, 'a'), x.named(-1, 'a'), x.named(LEAST, 'a'), x.named(MOST, 'a'));
            s.is("nothing started", x.started(0), -1);
        });
        s.hold("Promise 26", "-19, -20;", () -> {
            FamilyFields x = new FamilyFields();
            Sentences.enumeration(x, "a");
            x.fails(0, true);
            s.is("INIT is ahead of no name", x.named(0, 'z'), -19);
            s.is("NOT", x.named(0, 'a'), -20);
            s.is("NOT is ahead of no name", x.named(0, 'z'), -20);
            s.is("nothing started", x.started(0), -1);
            s.is("it is no cause", x.cause(0), 0);
        });
        s.hold("Promise 26", "-18: there is none of that NAME.", () -> {
            FamilyFields x = new FamilyFields();
            x.enumeration();
            Sentences.enumeration(x, "ab");
            s.is("of no constants", x.named(0, 'a'), -18);
            s.is("it started all the same", x.started(0), 10);
            s.all("of two", -18, x.named(1, 'c'), x.named(1, 0), x.named(1, -1), x.named(1, 'A'), x.named(1, 0x6161), x.named(1, 'a' + (1L << 32)));
            x.forget(1, 0);
            s.is("one that went", x.named(1, 'a'), -18);
            s.is("it is no cause", x.cause(0), 0);
        });
    }

    private static void work() {
        s.hold("Promise 27", "A BODY of a CONSTANT with n, way 0 ONCE, 1 TWICE, 2 PLAIN;", () -> {
            FamilyFields x = new FamilyFields();
            Sentences.enumeration(x, "aBC");
            long[][] due = {{10, 10, 10}, {32, -22, 11}, {35, 110, 12}};
            for (int c = 0; c < 3; c++) {
                for (int way = 0; way < 3; way++) s.is("constant " + c + ", way " + way, x.work(0, c, way, 10), due[c][way]);
            }
            s.is("the least int", x.work(0, 0, 2, LEAST), LEAST);
            s.is("round the most int", x.work(0, 1, 2, MOST), LEAST);
        });
        s.hold("Promise 27", "the ENUMERATION STARTS.", () -> {
            FamilyFields x = new FamilyFields();
            x.enumeration();
            Sentences.enumeration(x, "a");
            x.work(1, 0, 2, 0);
            s.is("it started", x.started(0), 11);
            x.work(1, 0, 0, 0);
            s.is("once", x.started(1), -1);
        });
        s.hold("Promise 27", "The least long: BAD (ENUMERATION, CONSTANT, way);", () -> {
            FamilyFields x = new FamilyFields();
            long bad = Long.MIN_VALUE;
            s.is("there is none", x.work(0, 0, 0, 0), bad);
            x.enumeration();
            s.is("no constants", x.work(0, 0, 0, 0), bad);
            x.constant(0, 'a', false);
            x.fails(0, true);
            s.all("no enumeration", bad, x.work(1, 0, 0, 0), x.work(-1, 0, 0, 0), x.work(LEAST, 0, 0, 0), x.work(MOST, 0, 0, 0));
            s.all("no constant", bad, x.work(0, 1, 0, 0), x.work(0, -1, 0, 0), x.work(0, LEAST, 0, 0), x.work(0, MOST, 0, 0));
            s.all("no way", bad, x.work(0, 0, 3, 0), x.work(0, 0, -1, 0), x.work(0, 0, LEAST, 0), x.work(0, 0, MOST, 0));
            s.is("none of these tried to start it", x.work(0, 0, 0, 0), bad + 9);
        });
        s.hold("Promise 27", "that and 9, 10: it failed by this code.", () -> {
            FamilyFields x = new FamilyFields();
            Sentences.enumeration(x, "a");
            x.fails(0, true);
            s.is("INIT", x.work(0, 0, 0, 0), Long.MIN_VALUE + 9);
            s.all("NOT", Long.MIN_VALUE + 10, x.work(0, 0, 0, 0), x.work(0, 0, 1, 5), x.work(0, 0, 2, LEAST));
            s.is("it is no cause", x.cause(0), 0);
            s.is("nothing started", x.started(0), -1);
        });
    }

    private static void started() {
        s.hold("Promise 28", "Who STARTED as the i-th in this BUILD, from 0 on: a RECORD its number, an ENUMERATION 10 and its number;", () -> {
            FamilyFields x = new FamilyFields();
            for (int e = 0; e <= 3; e++) x.enumeration();
            for (int r = 0; r <= 5; r++) x.record();
            for (int e = 3; e >= 0; e--) x.named(e, 'a');
            for (int r = 5; r >= 0; r--) x.make(r);
            int[] order = {13, 12, 11, 10, 5, 4, 3, 2, 1, 0};
            for (int i = 0; i < 10; i++) s.is("started(" + i + ")", x.started(i), order[i]);
            x.build();
            x.make(4);
            x.named(2, 'a');
            s.is("in this build", x.started(0), 4);
            s.is("in this build", x.started(1), 12);
        });
        s.hold("Promise 28", "NONE.", () -> {
            FamilyFields x = new FamilyFields();
            s.all("nobody", -1, x.started(0), x.started(-1));
            for (int r = 0; r <= 5; r++) x.record();
            for (int r = 0; r <= 5; r++) x.make(r);
            s.all("behind the last", -1, x.started(6), x.started(10), x.started(MOST), x.started(-1), x.started(LEAST));
            x.build();
            s.is("in a new build", x.started(0), -1);
        });
    }

    /** Record 0 with two parts of its own family. */
    private static FamilyFields pairs() {
        FamilyFields x = new FamilyFields();
        x.record();
        x.family();
        x.permit(0, false, 0);
        x.part(0, 'a', 11, 0, 0);
        x.part(0, 'b', 11, 0, 0);
        return x;
    }

    private static void keep() {
        s.hold("Promise 29", "KEEPS an OBJECT: its LINE.", () -> {
            FamilyFields x = pairs();
            Sentences.make(x, 0, -1, -1);
            Sentences.make(x, 0, 0, 0);
            s.is("behind its part", x.keep(1), 1);
            s.is("its part", x.keep(0), 0);
            s.is("again", x.keep(1), 1);
            s.is("lines", x.count(5), 2);
            s.is("not loaded by that", x.line(1, 3), -1);
        });
        s.hold("Promise 29", "BAD;", () -> {
            FamilyFields x = new FamilyFields();
            s.is("there is none", x.keep(0), -1);
            Sentences.makeOne(x);
            s.all("no such", -1, x.keep(1), x.keep(-1), x.keep(LEAST), x.keep(MOST));
            x.build();
            s.is("it went", x.keep(0), -1);
            s.is("lines", x.count(5), 0);
        });
        s.hold("Promise 29", "FULL: all that is to be kept has no room (none is).", () -> {
            FamilyFields x = pairs();
            for (int i = 0; i < 62; i++) x.keep(Sentences.make(x, 0, -1, -1));
            Sentences.make(x, 0, -1, -1);
            Sentences.make(x, 0, -1, 62);
            Sentences.make(x, 0, 63, 62);
            s.is("three, and room for two", x.keep(64), -3);
            s.is("none is kept", x.count(5), 62);
            s.is("two", x.keep(63), 63);
            s.is("lines", x.count(5), 64);
            s.is("one, and room for none", x.keep(64), -3);
            s.is("one that has its line", x.keep(0), 0);
            s.is("the last that has its line", x.keep(62), 62);
            s.is("BAD is ahead of it", x.keep(65), -1);
            FamilyFields y = pairs();
            for (int i = 0; i < 65; i++) Sentences.make(y, 0, i - 1, -1);
            s.is("65", y.keep(64), -3);
            s.is("64", y.keep(63), 63);
        });
    }

    private static void load() {
        s.hold("Promise 30", "LOADS a LINE: the OBJECT.", () -> {
            FamilyFields x = pairs();
            Sentences.make(x, 0, -1, -1);
            x.keep(Sentences.make(x, 0, -1, 0));
            x.build();
            s.is("behind its part", x.load(1), 1);
            s.is("its part", x.load(0), 0);
            s.is("again", x.load(1), 1);
            s.is("its part", x.told(1, 1), 0);
            s.is("objects", x.count(4), 2);
            s.is("its record", x.of(1), 0);
        });
        s.hold("Promise 30", "BAD;", () -> {
            FamilyFields x = new FamilyFields();
            s.is("there is none", x.load(0), -1);
            x.keep(x.make(x.record()));
            s.all("no such", -1, x.load(1), x.load(-1), x.load(64), x.load(LEAST), x.load(MOST));
            s.is("it is no cause", x.cause(0), 0);
            s.is("objects", x.count(4), 1);
        });
        s.hold("Promise 30", "-10 less the code.", () -> {
            FamilyFields x = new FamilyFields();
            Sentences.enumeration(x, "aB");
            x.record();
            x.part(0, 'a', 4, 0, 0);
            x.part(0, 'b', 8, 0, 0);
            x.part(0, 'c', 10, 0, 0);
            x.keep(Sentences.make(x, 0, -1, 0, -1));
            x.build();
            x.check(0, 2, 1, 0, 0);
            s.is("2 NULL", x.load(0), -12);
            x.check(0, 0, 0, 0, 9);
            x.becomes(0, 2, 10, 0);
            s.is("1 ARGUMENT", x.load(0), -11);
            x.becomes(0, 0, 4, 0);
            x.check(0, 0, 3, 0, 0);
            s.is("4 SIZE", x.load(0), -14);
            x.becomes(0, 0, 4, 0);
            x.check(0, 1, 6, 0, 0);
            s.is("7 STORE", x.load(0), -17);
            x.becomes(0, 1, 8, 0);
            x.part(0, 'd', 4, 0, 0);
            x.check(0, 3, 2, 0, 0);
            s.is("3 ZERO", x.load(0), -13);
            x.becomes(0, 2, 10, 1);
            s.is("6 CAST", x.load(0), -16);
            x.becomes(0, 2, 10, 0);
            x.forget(0, 0);
            s.is("8 UNKNOWN", x.load(0), -18);
            x.constant(0, 'a', true);
            x.build();
            x.fails(0, true);
            s.is("9 INIT", x.load(0), -19);
            s.is("10 NOT", x.load(0), -20);
            s.is("no object of all these", x.count(4), 0);
        });
    }

    private static void line() {
        s.hold("Promise 31", "Of a LINE: what = 0 the RECORD, 1 the BUILD, 2 how many PARTS,", () -> {
            FamilyFields x = new FamilyFields();
            x.build();
            for (int r = 0; r <= 5; r++) x.record();
            for (int p = 0; p < 6; p++) x.part(5, 'a' + p, 4, 0, 0);
            x.keep(x.make(5));
            x.build();
            x.keep(x.make(0));
            s.is("record", x.line(0, 0), 5);
            s.is("record", x.line(1, 0), 0);
            s.is("build", x.line(0, 1), 1);
            s.is("build", x.line(1, 1), 2);
            s.is("six parts", x.line(0, 2), 6);
            s.is("no parts", x.line(1, 2), 0);
            x.build();
            x.without(5, 0);
            x.part(0, 'a', 4, 0, 0);
            s.is("six, as it was kept", x.line(0, 2), 6);
            s.is("none, as it was kept", x.line(1, 2), 0);
        });
        s.hold("Promise 31", "3 the OBJECT as which it is LOADED in this BUILD (NONE).", () -> {
            FamilyFields x = new FamilyFields();
            Sentences.record(x, 4);
            x.keep(Sentences.make(x, 0, 1));
            s.is("kept", x.line(0, 3), -1);
            x.load(0);
            s.is("loaded", x.line(0, 3), 1);
            x.build();
            s.is("in a new build", x.line(0, 3), -1);
            x.check(0, 0, 0, 0, 0);
            s.is("a load that fails", x.load(0), -11);
            s.is("not loaded", x.line(0, 3), -1);
            x.becomes(0, 0, 5, 0);
            x.load(0);
            s.is("object 0", x.line(0, 3), 0);
        });
        s.hold("Promise 31", "BAD.", () -> {
            FamilyFields x = new FamilyFields();
            s.is("there is none", x.line(0, 0), -1);
            x.keep(x.make(x.record()));
            s.all("no lines", -1, x.line(1, 0), x.line(-1, 0), x.line(64, 0), x.line(LEAST, 0), x.line(MOST, 0));
            s.all("no what", -1, x.line(0, 4), x.line(0, -1), x.line(0, LEAST), x.line(0, MOST));
        });
    }

    /** Lines 0 to 5: of record 0 (constant a, set b) twice, of record 1 likewise of enumeration 1, none, and of a row and an int. */
    private static FamilyFields words() {
        FamilyFields x = new FamilyFields();
        Sentences.enumeration(x, "abcdefgh");
        Sentences.enumeration(x, "abcdefgh");
        Sentences.record(x, 8, 9);
        x.record();
        x.part(1, 'a', 8, 1, 0);
        x.part(1, 'b', 9, 1, 0);
        Sentences.record(x, 10, 4);
        x.row(0, 1);
        x.put(0, 0, 'a');
        x.keep(Sentences.make(x, 0, 0, 0x81));
        x.keep(Sentences.make(x, 0, 7, 255));
        x.keep(Sentences.make(x, 1, 0, 1));
        x.keep(Sentences.make(x, 0, -1, 0));
        x.keep(Sentences.make(x, 2, 0, 'a'));
        x.keep(Sentences.make(x, 1, 0, 0));
        return x;
    }

    private static void word() {
        s.hold("Promise 32", "The i-th LINE, from 0 on, of which a PART of a NAME was kept as CONSTANT or SET with the CONSTANT of another NAME;", () -> {
            FamilyFields x = words();
            s.is("part a with a, the first", x.word('a', 'a', 0), 0);
            s.is("the second", x.word('a', 'a', 1), 2);
            s.is("the third", x.word('a', 'a', 2), 5);
            s.is("part a with h", x.word('a', 'h', 0), 1);
            s.is("part b with a, the first", x.word('b', 'a', 0), 0);
            s.is("the third", x.word('b', 'a', 2), 2);
            s.is("part b with h, the second", x.word('b', 'h', 1), 1);
            x.build();
            x.forget(0, 0);
            x.without(0, 0);
            s.is("as it was kept", x.word('a', 'a', 0), 0);
        });
        s.hold("Promise 32", "i = -1: how many;", () -> {
            FamilyFields x = words();
            s.is("part a with a", x.word('a', 'a', -1), 3);
            s.is("part b with b", x.word('b', 'b', -1), 1);
            s.is("part a with b", x.word('a', 'b', -1), 0);
            s.is("no such part", x.word('c', 'a', -1), 0);
            s.is("no lines", new FamilyFields().word('a', 'a', -1), 0);
            s.all("no names", 0, x.word(0, 'a', -1), x.word('a', 0, -1), x.word(-1, -1, -1));
        });
        s.hold("Promise 32", "NONE: there is none such.", () -> {
            FamilyFields x = words();
            s.all("behind the last", -1, x.word('a', 'a', 3), x.word('a', 'h', 1), x.word('a', 'a', MOST));
            s.all("before the first", -1, x.word('a', 'a', -2), x.word('a', 'a', LEAST));
            s.all("no constant, no part", -1, x.word('a', 'b', 0), x.word('c', 'a', 0), x.word(0, 'a', 0), x.word('a', 0, 0));
            s.is("no lines", new FamilyFields().word('a', 'a', 0), -1);
        });
    }

    private static void range() {
        s.hold("Promise 33", "Likewise with a CONSTANT of an ENUMERATION that has an ORDINAL from low to high now.", () -> {
            FamilyFields x = words();
            s.is("0 to 0", x.range('a', 0, 0, 0, -1), 1);
            s.is("0 to 7", x.range('a', 0, 0, 7, -1), 2);
            s.is("7 to 7", x.range('a', 0, 7, 7, 0), 1);
            s.is("1 to 6", x.range('a', 0, 1, 6, -1), 0);
            s.is("1 to 6, of sets", x.range('b', 0, 1, 6, 0), 1);
            s.is("of the other enumeration", x.range('a', 1, 0, 0, -1), 2);
            s.is("of the other enumeration", x.range('a', 1, 0, 0, 1), 5);
            s.is("of all numbers", x.range('b', 0, LEAST, MOST, -1), 2);
            s.all("of none", 0, x.range('b', 0, 7, 0, -1), x.range('b', 0, -9, -1, -1), x.range('b', 0, 8, MOST, -1), x.range('b', 0, MOST, LEAST, -1));
            s.all("the first, none behind the last", -1, x.range('a', 0, 0, 7, 2), x.range('a', 0, 0, 7, -2), x.range('a', 0, 0, 7, MOST));
            s.is("no names", x.range(0, 0, 0, 7, -1), 0);
            x.build();
            x.exchange(0, 0, 7);
            s.is("a is at 7 now", x.range('a', 0, 7, 7, 0), 0);
            x.forget(0, 7);
            s.is("a is nowhere now", x.range('a', 0, LEAST, MOST, -1), 1);
            s.is("h is at 0", x.range('a', 0, 0, 0, 0), 1);
            x.constant(0, 'a', false);
            s.is("a is back", x.range('a', 0, 7, 7, 0), 0);
            x.becomes(0, 0, 8, 1);
            s.is("of the enumeration as it was kept", x.range('a', 1, 0, 7, -1), 2);
        });
        s.hold("Promise 33", "(NONE, too: no ENUMERATION.)", () -> {
            FamilyFields x = words();
            s.all("no such", -1, x.range('a', 2, 0, 7, 0), x.range('a', -1, 0, 7, 0), x.range('a', LEAST, 0, 7, 0), x.range('a', MOST, 0, 7, 0));
            s.all("how many", -1, x.range('a', 2, 0, 7, -1), x.range('a', -1, 0, 7, -1), new FamilyFields().range('a', 0, 0, 7, -1));
        });
    }

    private static void count() {
        s.hold("Promise 34", "What = 0 ENUMERATIONS, 1 RECORDS, 2 FAMILIES, 3 ROWS, 4 OBJECTS, 5 LINES, 6 the BUILD, 7 CONSTANTS that were LEFT OUT, ever.", () -> {
            FamilyFields x = words();
            x.build();
            x.family();
            x.row(0, 0);
            x.forget(0, 0);
            x.load(1);
            x.load(4);
            int[] counts = {2, 3, 1, 2, 2, 6, 1, 1};
            for (int i = 0; i < 8; i++) s.is("count(" + i + ")", x.count(i), counts[i]);
            x.build();
            int[] then = {2, 3, 1, 0, 0, 6, 2, 1};
            for (int i = 0; i < 8; i++) s.is("count(" + i + ")", x.count(i), then[i]);
            x.load(1);
            s.is("ever", x.count(7), 2);
        });
        s.hold("Promise 34", "BAD.", () -> {
            FamilyFields x = words();
            s.all("no what", -1, x.count(-1), x.count(8), x.count(LEAST), x.count(MOST));
        });
    }

    private static void about() {
        s.hold("Promise 35", "Of a type, by a number: what = 0 CONSTANTS of an ENUMERATION, 1 PARTS of a RECORD, 2 its CHECKS, 3 MEMBERS of a FAMILY, 4 its LEAVES.", () -> {
            FamilyFields x = new FamilyFields();
            for (int e = 0; e <= 3; e++) Sentences.enumeration(x, "abcdefgh".substring(0, 2 * e));
            for (int r = 0; r <= 5; r++) {
                x.record();
                for (int p = 0; p < r; p++) x.part(r, 'a' + p, 4, 0, 0);
                for (int c = 1; c < r; c++) x.check(r, 0, 0, 0, 0);
            }
            x.family();
            Sentences.family(x, 1, 2, 3, 4);
            Sentences.family(x, 4, 5);
            x.permit(2, true, 1);
            for (int e = 0; e <= 3; e++) s.is("constants", x.about(e, 0), 2 * e);
            for (int r = 0; r <= 5; r++) s.is("parts", x.about(r, 1), r);
            for (int r = 0; r <= 5; r++) s.is("checks", x.about(r, 2), Math.max(0, r - 1));
            int[] members = {0, 4, 3}, leaves = {0, 4, 5};
            for (int f = 0; f <= 2; f++) s.is("members", x.about(f, 3), members[f]);
            for (int f = 0; f <= 2; f++) s.is("leaves", x.about(f, 4), leaves[f]);
        });
        s.hold("Promise 35", "BAD.", () -> {
            FamilyFields x = new FamilyFields();
            for (int what = 0; what <= 4; what++) s.is("there is none", x.about(0, what), -1);
            x.enumeration();
            x.record();
            x.family();
            for (int what = 0; what <= 4; what++) {
                s.all("no such, what " + what, -1, x.about(1, what), x.about(-1, what), x.about(LEAST, what), x.about(MOST, what));
            }
            s.all("no what", -1, x.about(0, -1), x.about(0, 5), x.about(0, LEAST), x.about(0, MOST));
        });
    }
}
