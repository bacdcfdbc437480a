/** Promises 1 to 14: a new object, types and builds. */
public final class TypesTest {
    private static final Due due = new Due();
    private static final long A = 'a', B = 'b', C = 'c', D = 'd';

    public static void main(String[] args) {
        newObject();
        enumerationCall();
        constantCall();
        names();
        exchangeCall();
        forgetCall();
        failsCall();
        familyCall();
        permitCall();
        leavesInOrder();
        recordCall();
        partCall();
        withoutCall();
        becomesCall();
        checkCall();
        buildCall();
        lastBuild();
        due.end();
    }

    /** One object of a record of its own, so that types may not change any more. */
    private static void makeOne(FamilyFields x) {
        int record = x.record();
        due.is("make(" + record + ") of no parts", x.make(record), 0);
    }

    private static void newObject() {
        FamilyFields x = new FamilyFields();
        for (int what = 0; what <= 7; what++) due.is("1: count(" + what + ")", x.count(what), 0);
        due.is("1: cause(0)", x.cause(0), 0);
        for (int what = 1; what <= 4; what++) due.is("1: cause(" + what + ")", x.cause(what), -1);
        due.is("1: started(0)", x.started(0), -1);
        due.is("1: of(0)", x.of(0), -1);
        due.is("1: size(0)", x.size(0), -1);
        due.is("1: line(0, 0)", x.line(0, 0), -1);
        due.is("1: build()", x.build(), 0);
    }

    private static void enumerationCall() {
        FamilyFields x = new FamilyFields();
        for (int i = 0; i < 4; i++) due.is("2: enumeration()", x.enumeration(), i);
        due.is("2: a fifth", x.enumeration(), -3);
        due.is("2: count(0)", x.count(0), 4);
        makeOne(x);
        due.is("2: STATE ahead of FULL", x.enumeration(), -2);
    }

    private static void constantCall() {
        FamilyFields x = new FamilyFields();
        due.is("3: no enumeration", x.constant(0, A, false), -1);
        x.enumeration();
        x.enumeration();
        due.is("3: below", x.constant(-1, A, false), -1);
        due.is("3: above", x.constant(2, A, false), -1);
        for (int i = 0; i < 8; i++) due.is("3: constant", x.constant(0, A + i, i % 2 == 0), i);
        due.is("3: one that is there, though full", x.constant(0, A + 7, false), -1);
        due.is("3: a ninth", x.constant(0, 'z', false), -3);
        due.is("3: the name in another enumeration", x.constant(1, A, false), 0);
        due.is("3: about", x.about(0, 0), 8);
        makeOne(x);
        due.is("3: BAD ahead of STATE", x.constant(0, A, true), -1);
        due.is("3: STATE ahead of FULL", x.constant(0, 'z', true), -2);
        due.is("3: STATE", x.constant(1, B, true), -2);
        due.is("3: nothing changed", x.about(1, 0), 1);
    }

    private static void names() {
        FamilyFields x = new FamilyFields();
        x.enumeration();
        long[] none = {0, 'a' - 1, 'z' + 1, 'A', -1, 0x6100, 0x610061, 0x7b61, 0x6061, 0x6161616161616100L,
            0x6100616161616161L, 0x7b61616161616161L, 0xe161616161616161L, 0x2061};
        for (long name : none) due.is("3: no name " + name, x.constant(0, name, false), -1);
        String[] some = {"a", "z", "az", "abcdefgh", "zzzzzzzz", "abcdefg", "aa", "b"};
        for (int i = 0; i < some.length; i++) due.is("3: " + some[i], x.constant(0, Due.name(some[i]), false), i);
        for (int i = 0; i < some.length; i++) due.is("26: " + some[i], x.named(0, Due.name(some[i])), i);
        x.record();
        for (long name : none) due.is("10: no name " + name, x.part(0, name, 4, 0, 0), -1);
        for (int i = 0; i < 6; i++) due.is("10: " + some[i], x.part(0, Due.name(some[i]), 4, 0, 0), i);
    }

    private static void exchangeCall() {
        FamilyFields x = new FamilyFields();
        due.is("4: no enumeration", x.exchange(0, 0, 0), -1);
        x.enumeration();
        x.constant(0, A, true);
        x.constant(0, B, false);
        x.constant(0, C, false);
        due.is("4: a below", x.exchange(0, -1, 0), -1);
        due.is("4: b below", x.exchange(0, 0, -1), -1);
        due.is("4: a above", x.exchange(0, 3, 0), -1);
        due.is("4: b above", x.exchange(0, 0, 3), -1);
        due.is("4: exchange", x.exchange(0, 0, 2), 1);
        due.is("4: a's place", x.named(0, A), 2);
        due.is("4: b's place", x.named(0, B), 1);
        due.is("4: c's place", x.named(0, C), 0);
        due.is("4: the body moved along", x.work(0, 2, 0, 1), 8);
        due.is("4: and left its place", x.work(0, 0, 0, 1), 1);
        due.is("4: with itself", x.exchange(0, 1, 1), 1);
        due.is("4: b's place still", x.named(0, B), 1);
        makeOne(x);
        due.is("4: BAD ahead of STATE", x.exchange(0, 0, 3), -1);
        due.is("4: STATE", x.exchange(0, 0, 1), -2);
        due.is("4: c's place still", x.named(0, C), 0);
    }

    private static void forgetCall() {
        FamilyFields x = new FamilyFields();
        due.is("5: no enumeration", x.forget(0, 0), -1);
        x.enumeration();
        due.is("5: no constant", x.forget(0, 0), -1);
        x.constant(0, A, false);
        x.constant(0, B, true);
        x.constant(0, C, true);
        due.is("5: below", x.forget(0, -1), -1);
        due.is("5: above", x.forget(0, 3), -1);
        due.is("5: forget", x.forget(0, 1), 2);
        due.is("5: a", x.named(0, A), 0);
        due.is("5: b", x.named(0, B), -18);
        due.is("5: c", x.named(0, C), 1);
        due.is("5: b again, behind", x.constant(0, B, false), 2);
        makeOne(x);
        due.is("5: BAD ahead of STATE", x.forget(0, 3), -1);
        due.is("5: STATE", x.forget(0, 0), -2);
        due.is("5: nothing went", x.about(0, 0), 3);
    }

    private static void failsCall() {
        FamilyFields x = new FamilyFields();
        due.is("6: no enumeration", x.fails(0, true), -1);
        x.enumeration();
        due.is("6: at first not", x.fails(0, true), 0);
        due.is("6: then it does", x.fails(0, true), 1);
        due.is("6: told otherwise", x.fails(0, false), 1);
        due.is("6: and not", x.fails(0, true), 0);
        due.is("6: the start fails", x.named(0, A), -19);
        due.is("6: over a build", x.build(), 0);
        due.is("6: it still does", x.named(0, A), -19);
        makeOne(x);
        due.is("6: BAD ahead of STATE", x.fails(1, true), -1);
        due.is("6: STATE", x.fails(0, false), -2);
        x.build();
        due.is("6: nothing changed", x.fails(0, false), 1);
        due.is("6: no failure now", x.named(0, A), -18);
    }

    private static void familyCall() {
        FamilyFields x = new FamilyFields();
        for (int i = 0; i < 3; i++) due.is("7: family()", x.family(), i);
        due.is("7: a fourth", x.family(), -3);
        due.is("7: count(2)", x.count(2), 3);
        makeOne(x);
        due.is("7: STATE ahead of FULL", x.family(), -2);
    }

    private static void permitCall() {
        FamilyFields x = new FamilyFields();
        due.is("8: no family", x.permit(0, false, 0), -1);
        x.family();
        x.family();
        due.is("8: no record", x.permit(0, false, 0), -1);
        for (int i = 0; i < 5; i++) x.record();
        due.is("8: record below", x.permit(0, false, -1), -1);
        due.is("8: record above", x.permit(0, false, 5), -1);
        due.is("8: family above", x.permit(2, false, 0), -1);
        due.is("8: family below", x.permit(-1, false, 0), -1);
        due.is("8: itself", x.permit(0, true, 0), -1);
        due.is("8: a greater family", x.permit(0, true, 1), -1);
        due.is("8: no family as member", x.permit(1, true, -1), -1);
        due.is("8: itself too", x.permit(1, true, 1), -1);
        due.is("8: the lesser one", x.permit(1, true, 0), 1);
        due.is("8: again", x.permit(1, true, 0), -1);
        due.is("8: a record of the same number", x.permit(1, false, 0), 2);
        for (int i = 0; i < 4; i++) due.is("8: record " + i, x.permit(0, false, i), i + 1);
        due.is("8: a member, though full", x.permit(0, false, 3), -1);
        due.is("8: a fifth", x.permit(0, false, 4), -3);
        due.is("8: members", x.about(0, 3), 4);
        makeOne(x);
        due.is("8: BAD ahead of STATE", x.permit(0, false, 3), -1);
        due.is("8: STATE ahead of FULL", x.permit(0, false, 4), -2);
    }

    private static void leavesInOrder() {
        FamilyFields x = new FamilyFields();
        for (int i = 0; i < 3; i++) x.family();
        for (int i = 0; i < 5; i++) x.record();
        x.permit(2, false, 3);
        x.permit(2, true, 1);
        x.permit(2, true, 0);
        x.permit(2, false, 0);
        x.permit(1, false, 2);
        x.permit(1, true, 0);
        x.permit(0, false, 4);
        x.permit(0, false, 3);
        // 2: 3, then of 1: 2, then of 0: 4 (3 came first), then 0
        due.is("35: leaves of 2", x.about(2, 4), 4);
        due.is("35: leaves of 1", x.about(1, 4), 3);
        due.is("35: leaves of 0", x.about(0, 4), 2);
        int[] tags = {3, -1, 1, 0, 2};
        for (int r = 0; r < 5; r++) {
            x.make(r);
            due.is("24: tag of record " + r, x.tag(r, 2), tags[r]);
        }
        due.is("24: in 1", x.tag(3, 1), 2);
        due.is("24: in 0", x.tag(3, 0), 1);
        due.is("24: none of it", x.tag(2, 0), -1);
    }

    private static void recordCall() {
        FamilyFields x = new FamilyFields();
        for (int i = 0; i < 6; i++) due.is("9: record()", x.record(), i);
        due.is("9: a seventh", x.record(), -3);
        due.is("9: count(1)", x.count(1), 6);
        due.is("9: of no parts", x.make(5), 0);
        due.is("9: STATE ahead of FULL", x.record(), -2);
    }

    private static void partCall() {
        FamilyFields x = new FamilyFields();
        due.is("10: no record", x.part(0, A, 4, 0, 0), -1);
        x.record();
        x.record();
        due.is("10: sort below", x.part(0, A, -1, 0, 0), -1);
        due.is("10: sort above", x.part(0, A, 12, 0, 0), -1);
        due.is("10: no enumeration (8)", x.part(0, A, 8, 0, 0), -1);
        due.is("10: no enumeration (9)", x.part(0, A, 9, 0, 0), -1);
        due.is("10: no family", x.part(0, A, 11, 0, 0), -1);
        due.is("10: lane below", x.part(0, A, 10, -1, 0), -1);
        due.is("10: lane above", x.part(0, A, 10, 8, 0), -1);
        x.enumeration();
        x.family();
        due.is("10: enumeration below", x.part(0, A, 8, -1, 0), -1);
        due.is("10: enumeration above", x.part(0, A, 9, 1, 0), -1);
        due.is("10: family above", x.part(0, A, 11, 1, 0), -1);
        due.is("10: of no matter", x.part(0, A, 7, -99, 0), 0);
        due.is("10: one that is there", x.part(0, A, 4, 0, 0), -1);
        due.is("10: in another record", x.part(1, A, 4, 0, 0), 0);
        due.is("10: 8", x.part(0, B, 8, 0, 0), 1);
        due.is("10: 9", x.part(0, C, 9, 0, 0), 2);
        due.is("10: 10, the last lane", x.part(0, D, 10, 7, 0), 3);
        due.is("10: 11", x.part(0, 'e', 11, 0, 0), 4);
        due.is("10: 0", x.part(0, 'f', 0, 0, 0), 5);
        due.is("10: a seventh", x.part(0, 'g', 0, 0, 0), -3);
        due.is("10: BAD ahead of FULL", x.part(0, 'f', 0, 0, 0), -1);
        due.is("10: parts", x.about(0, 1), 6);
        makeOne(x);
        due.is("10: BAD ahead of STATE", x.part(0, A, 0, 0, 0), -1);
        due.is("10: STATE ahead of FULL", x.part(0, 'g', 0, 0, 0), -2);
        due.is("10: STATE", x.part(1, B, 0, 0, 0), -2);
    }

    private static void withoutCall() {
        FamilyFields x = new FamilyFields();
        due.is("11: no record", x.without(0, 0), -1);
        x.record();
        due.is("11: no part", x.without(0, 0), -1);
        for (int i = 0; i < 3; i++) x.part(0, A + i, 4, 0, 0);
        x.check(0, 1, 0, 5, 5);
        x.check(0, 2, 2, 0, 0);
        x.check(0, 1, 3, 0, 0);
        due.is("11: below", x.without(0, -1), -1);
        due.is("11: above", x.without(0, 3), -1);
        due.is("11: without", x.without(0, 1), 2);
        due.is("11: its checks went", x.about(0, 2), 1);
        x.give(0, 9);
        x.give(1, 0);
        due.is("11: the part behind is checked still", x.make(0), -13);
        due.is("11: by its number now", x.cause(2), 1);
        due.is("11: and the check's", x.cause(3), 0);
        x.give(1, 1);
        due.is("11: make", x.make(0), 0);
        due.is("11: two parts", x.told(0, 2), Long.MIN_VALUE);
        due.is("11: BAD ahead of STATE", x.without(0, 2), -1);
        due.is("11: STATE", x.without(0, 0), -2);
        x.build();
        due.is("11: its name is free", x.part(0, B, 4, 0, 0), 2);
        due.is("11: not the others", x.part(0, C, 4, 0, 0), -1);
    }

    private static void becomesCall() {
        FamilyFields x = new FamilyFields();
        due.is("12: no record", x.becomes(0, 0, 4, 0), -1);
        x.record();
        due.is("12: no part", x.becomes(0, 0, 4, 0), -1);
        x.part(0, A, 4, 0, 7);
        x.part(0, B, 5, 0, 7);
        x.check(0, 0, 0, 5, 5);
        x.check(0, 1, 2, 0, 0);
        x.check(0, 0, 3, 0, 0);
        due.is("12: sort above", x.becomes(0, 0, 12, 0), -1);
        due.is("12: sort below", x.becomes(0, 0, -1, 0), -1);
        due.is("12: no enumeration", x.becomes(0, 0, 9, 0), -1);
        due.is("12: no family", x.becomes(0, 0, 11, 0), -1);
        due.is("12: no lane", x.becomes(0, 0, 10, 8), -1);
        due.is("12: nothing changed", x.about(0, 2), 3);
        due.is("12: part above", x.becomes(0, 2, 4, 0), -1);
        due.is("12: becomes a row", x.becomes(0, 0, 10, 7), 4);
        due.is("12: of another lane", x.becomes(0, 0, 10, 3), 10);
        due.is("12: its checks went, not the other's", x.about(0, 2), 1);
        x.give(1, 0);
        x.give(0, -1);
        due.is("12: the other's stays", x.make(0), -13);
        due.is("12: it is check 0 now", x.cause(3), 0);
        due.is("12: of part 1", x.cause(2), 1);
        due.is("12: back", x.becomes(0, 0, 4, 0), 10);
        due.is("12: the same again", x.becomes(0, 0, 4, 0), 4);
        standardAfterBecoming();
        x.give(1, 1);
        x.make(0);
        due.is("12: BAD ahead of STATE", x.becomes(0, 0, 12, 0), -1);
        due.is("12: STATE", x.becomes(0, 0, 5, 0), -2);
    }

    private static void standardAfterBecoming() {
        FamilyFields x = new FamilyFields();
        x.record();
        x.make(0);
        x.keep(0);
        x.build();
        x.part(0, A, 4, 0, 7);
        x.part(0, B, 4, 0, 7);
        x.becomes(0, 0, 5, 0);
        due.is("12: load", x.load(0), 0);
        due.is("12: its standard is of bits 0", x.told(0, 0), 0);
        due.is("10: the other's is as given", x.told(0, 1), 7);
    }

    private static void checkCall() {
        FamilyFields x = new FamilyFields();
        due.is("13: no record", x.check(0, 0, 0, 0, 0), -1);
        x.enumeration();
        x.family();
        String[] sorts = {"1111111100000", "0000000010110", "0111110000000", "0111100000000", "0000000000100",
            "0000000000010", "0000000010000"};
        for (int kind = 0; kind < 7; kind++) {
            for (int sort = 0; sort <= 11; sort++) {
                FamilyFields y = new FamilyFields();
                y.enumeration();
                y.family();
                y.record();
                y.part(0, A, sort, 0, 0);
                int want = sorts[kind].charAt(sort) == '1' ? 1 : -1;
                due.is("13: check " + kind + " of sort " + sort, y.check(0, 0, kind, 0, 0), want);
            }
        }
        x.record();
        due.is("13: no part", x.check(0, 0, 0, 0, 0), -1);
        x.part(0, A, 4, 0, 0);
        due.is("13: part below", x.check(0, -1, 0, 0, 0), -1);
        due.is("13: part above", x.check(0, 1, 0, 0, 0), -1);
        due.is("13: check below", x.check(0, 0, -1, 0, 0), -1);
        due.is("13: check above", x.check(0, 0, 7, 0, 0), -1);
        for (int i = 1; i <= 4; i++) due.is("13: check", x.check(0, 0, 0, Long.MIN_VALUE, Long.MAX_VALUE), i);
        due.is("13: a fifth", x.check(0, 0, 0, 0, 0), -3);
        due.is("13: BAD ahead of FULL", x.check(0, 0, 1, 0, 0), -1);
        due.is("13: checks", x.about(0, 2), 4);
        x.make(0);
        due.is("13: BAD ahead of STATE", x.check(0, 0, 1, 0, 0), -1);
        due.is("13: STATE ahead of FULL", x.check(0, 0, 0, 0, 0), -2);
    }

    private static void buildCall() {
        FamilyFields x = new FamilyFields();
        x.record();
        x.part(0, A, 4, 0, 0);
        x.check(0, 0, 0, 0, 9);
        x.give(0, 7);
        x.make(0);
        x.make(0);
        x.row(1, 3);
        x.put(0, 1, 5);
        x.keep(1);
        x.load(0);
        x.give(0, 10);
        due.is("14: a failure", x.make(0), -11);
        due.is("14: three objects", x.build(), 3);
        due.is("14: no object", x.count(4), 0);
        due.is("14: no row", x.count(3), 0);
        due.is("14: a line", x.count(5), 1);
        due.is("14: the build", x.count(6), 1);
        due.is("14: nobody started", x.started(0), -1);
        due.is("14: of(0)", x.of(0), -1);
        due.is("14: told(0, 0)", x.told(0, 0), Long.MIN_VALUE);
        due.is("14: size(0)", x.size(0), -1);
        due.is("14: item(0, 1)", x.item(0, 1), 0);
        due.is("14: not loaded", x.line(0, 3), -1);
        due.is("14: the cause stays", x.cause(0), 1);
        due.is("14: the types stay", x.about(0, 1), 1);
        due.is("14: the draft stays", x.make(0), -11);
        x.give(0, 8);
        due.is("14: numbered from 0 on", x.make(0), 0);
        due.is("14: rows too", x.row(2, 2), 0);
        due.is("14: with no items of before", x.item(0, 1), 0);
        due.is("14: kept anew", x.keep(0), 1);
        due.is("14: in build 1", x.line(1, 1), 1);
        due.is("14: one object", x.build(), 1);
        due.is("14: none", x.build(), 0);
        due.is("14: types may change again", x.record(), 1);
    }

    private static void lastBuild() {
        FamilyFields x = new FamilyFields();
        // More calls than are promised for one object, but the edge is told.
        for (int i = 0; i < 1000; i++) x.build();
        x.record();
        x.make(0);
        due.is("14: build 1000", x.count(6), 1000);
        due.is("14: FULL", x.build(), -3);
        due.is("14: nothing changed", x.count(4), 1);
    }
}
