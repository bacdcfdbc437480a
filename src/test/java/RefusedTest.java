import java.util.ArrayList;
import java.util.List;
import java.util.function.Supplier;
import java.util.function.ToLongFunction;

/**
 * "Terms", section 3 THE TABLE: "They change nothing, but as told." After each refused call of every kind an object
 * answers all that can be asked, and all that is done then, as one does that never was called so.
 */
public final class RefusedTest {
    private static final Due due = new Due();
    private static final int MOST = Integer.MAX_VALUE, LEAST = Integer.MIN_VALUE;

    public static void main(String[] args) {
        refusedTypes();
        refusedForObjects();
        refusedAsFull();
        refusedRowsAndObjects();
        refusedTable();
        asking();
        due.end();
    }

    /** Compares an object that was called with one that was not, both of one scene. */
    private static void refuses(String call, Supplier<FamilyFields> scene, long want, ToLongFunction<FamilyFields> refused) {
        FamilyFields called = scene.get();
        due.is(call, refused.applyAsLong(called), want);
        List<Long> after = answers(called), plain = answers(scene.get());
        for (int i = 0; i < plain.size(); i++) due.is("after " + call + " answer " + i, after.get(i), plain.get(i));
    }

    /** What can be asked, then what is done with it all: some 200 calls, so that a scene has some 300 for itself. */
    private static List<Long> answers(FamilyFields x) {
        List<Long> all = new ArrayList<>();
        ask(x, all);
        for (int r = 0; r < 6; r++) all.add((long) x.make(r));
        for (int i = 0; i < 6; i++) all.add(x.told(x.count(4) - 1, i));
        all.add((long) x.row(4, 1));
        for (int i = 0; i < 2; i++) all.add((long) x.keep(i));
        all.add((long) x.build());
        for (int i = 0; i < 2; i++) all.add((long) x.load(i));
        for (int i = 0; i < 6; i++) all.add(x.told(0, i));
        for (int e = 0; e < 4; e++) {
            for (char c = 'a'; c < 'd'; c++) all.add((long) x.named(e, c));
            all.add(x.work(e, 0, 0, 1));
        }
        all.add((long) x.build());
        for (int r = 0; r < 6; r++) all.add((long) x.becomes(r, 0, 4, 0));
        for (int e = 0; e < 4; e++) all.add((long) x.fails(e, false));
        for (int i = 0; i < 3; i++) all.add((long) x.load(i));
        for (int i = 0; i < 8; i++) all.add((long) x.count(i));
        return all;
    }

    private static void ask(FamilyFields x, List<Long> all) {
        for (int i = 0; i < 8; i++) all.add((long) x.count(i));
        for (int type = 0; type < 6; type++) {
            for (int what = 0; what < 5; what++) all.add((long) x.about(type, what));
        }
        for (int i = 0; i < 10; i++) all.add((long) x.started(i));
        for (int i = 0; i < 5; i++) all.add((long) x.cause(i));
        for (int r = 0; r < 3; r++) {
            all.add((long) x.size(r));
            for (int i = 0; i < 4; i++) all.add(x.item(r, i));
        }
        for (int object = 0; object < 4; object++) {
            all.add((long) x.of(object));
            for (int p = 0; p < 6; p++) all.add(x.told(object, p));
            for (int f = 0; f < 3; f++) all.add((long) x.tag(object, f));
            all.add((long) x.same(0, object));
        }
        for (int line = 0; line < 3; line++) {
            for (int what = 0; what < 4; what++) all.add((long) x.line(line, what));
        }
        for (char c = 'a'; c < 'd'; c++) {
            all.add((long) x.word('a', c, -1));
            all.add((long) x.range('a', 0, c - 'a', 7, -1));
        }
    }

    /** Types, a row and a kept line of build 0, but no objects; enumeration 1 has failed. */
    private static FamilyFields types() {
        FamilyFields x = new FamilyFields();
        Sentences.enumeration(x, "aB");
        Sentences.enumeration(x, "ab");
        x.record();
        Sentences.family(x, 0);
        x.family();
        Sentences.record(x, 8, 9, 10, 11, 4, 6);
        x.permit(1, true, 0);
        x.permit(1, false, 1);
        x.check(1, 4, 2, 0, 0);
        x.check(1, 5, 0, 0, 9);
        x.make(0);
        x.row(0, 2);
        x.keep(Sentences.make(x, 1, 1, 3, 0, 0, 5, 0));
        x.build();
        x.fails(1, true);
        x.named(1, 'a');
        x.row(0, 3);
        x.put(0, 1, 1);
        x.row(4, 2);
        x.put(1, 0, 77);
        Sentences.make(x, 1, 0, 1, -1, -1, 0, 0);
        return x;
    }

    /** The same with objects: 0 and 3 are made, 1 and 2 loaded. */
    private static FamilyFields objects() {
        FamilyFields x = types();
        x.make(0);
        x.load(1);
        Sentences.make(x, 1, 0, 2, 0, 0, 6, 0x3f800000);
        return x;
    }

    /** As many types as there may be, number 0 of each as full as it may be. */
    private static FamilyFields fullTypes() {
        FamilyFields x = new FamilyFields();
        Sentences.enumeration(x, "abcdefgh");
        for (int e = 1; e < 4; e++) x.enumeration();
        Sentences.record(x, 4, 4, 4, 4, 4, 4);
        for (int r = 1; r < 6; r++) x.record();
        for (int c = 0; c < 4; c++) x.check(0, c, 0, 0, c);
        Sentences.family(x, 0, 1, 2, 3);
        x.family();
        x.family();
        return x;
    }

    private static FamilyFields fullRows() {
        FamilyFields x = types();
        for (int i = 0; i < 38; i++) x.row(4, 1);
        return x;
    }

    private static FamilyFields fullObjects() {
        FamilyFields x = types();
        for (int i = 0; i < 100; i++) x.make(0);
        return x;
    }

    /** 62 lines in a table for 64; object 64 wants three lines more. */
    private static FamilyFields nearlyFullTable() {
        FamilyFields x = new FamilyFields();
        x.record();
        x.family();
        x.permit(0, false, 0);
        x.part(0, 'a', 11, 0, 0);
        for (int i = 0; i < 65; i++) {
            x.give(0, i - 1);
            x.make(0);
            if (i == 61) x.keep(61);
        }
        return x;
    }

    private static void refusedTypes() {
        Supplier<FamilyFields> scene = RefusedTest::types;
        refuses("constant(2)", scene, -1, x -> x.constant(2, 'c', true));
        refuses("constant of no name", scene, -1, x -> x.constant(0, 0, true));
        refuses("constant that is there", scene, -1, x -> x.constant(0, 'a', true));
        refuses("exchange(0, 0, 2)", scene, -1, x -> x.exchange(0, 0, 2));
        refuses("exchange(0, -1, 0)", scene, -1, x -> x.exchange(0, -1, 0));
        refuses("forget(0, 2)", scene, -1, x -> x.forget(0, 2));
        refuses("forget(0, -1)", scene, -1, x -> x.forget(0, -1));
        refuses("fails(2)", scene, -1, x -> x.fails(2, true));
        refuses("permit(2)", scene, -1, x -> x.permit(2, false, 0));
        refuses("permit of itself", scene, -1, x -> x.permit(1, true, 1));
        refuses("permit of a member", scene, -1, x -> x.permit(1, true, 0));
        refuses("permit of no record", scene, -1, x -> x.permit(0, false, 2));
        refuses("part(2)", scene, -1, x -> x.part(2, 'a', 4, 0, 0));
        refuses("part of no name", scene, -1, x -> x.part(0, 'A', 4, 0, 0));
        refuses("part that is there", scene, -1, x -> x.part(1, 'f', 4, 0, 0));
        refuses("part of no sort", scene, -1, x -> x.part(0, 'a', 12, 0, 0));
        refuses("part of nothing", scene, -1, x -> x.part(0, 'a', 11, 2, 0));
        refuses("without(1, 6)", scene, -1, x -> x.without(1, 6));
        refuses("without(1, -1)", scene, -1, x -> x.without(1, -1));
        refuses("becomes of no part", scene, -1, x -> x.becomes(1, 6, 4, 0));
        refuses("becomes of no sort", scene, -1, x -> x.becomes(1, 4, 12, 0));
        refuses("becomes of nothing", scene, -1, x -> x.becomes(1, 4, 8, 2));
        refuses("check of no part", scene, -1, x -> x.check(1, 6, 0, 0, 0));
        refuses("check 7", scene, -1, x -> x.check(1, 4, 7, 0, 0));
        refuses("check of another sort", scene, -1, x -> x.check(1, 4, 1, 0, 0));
    }

    private static void refusedForObjects() {
        Supplier<FamilyFields> scene = RefusedTest::objects;
        refuses("enumeration()", scene, -2, FamilyFields::enumeration);
        refuses("constant", scene, -2, x -> x.constant(0, 'c', true));
        refuses("exchange", scene, -2, x -> x.exchange(0, 0, 1));
        refuses("forget", scene, -2, x -> x.forget(0, 0));
        refuses("fails", scene, -2, x -> x.fails(0, true));
        refuses("fails", scene, -2, x -> x.fails(1, false));
        refuses("family()", scene, -2, FamilyFields::family);
        refuses("permit", scene, -2, x -> x.permit(0, false, 1));
        refuses("record()", scene, -2, FamilyFields::record);
        refuses("part", scene, -2, x -> x.part(0, 'a', 4, 0, 0));
        refuses("without", scene, -2, x -> x.without(1, 4));
        refuses("becomes", scene, -2, x -> x.becomes(1, 4, 5, 0));
        refuses("check", scene, -2, x -> x.check(1, 0, 1, 0, 0));
    }

    private static void refusedAsFull() {
        Supplier<FamilyFields> scene = RefusedTest::fullTypes;
        refuses("enumeration()", scene, -3, FamilyFields::enumeration);
        refuses("constant", scene, -3, x -> x.constant(0, 'i', true));
        refuses("family()", scene, -3, FamilyFields::family);
        refuses("permit", scene, -3, x -> x.permit(0, false, 4));
        refuses("record()", scene, -3, FamilyFields::record);
        refuses("part", scene, -3, x -> x.part(0, 'g', 4, 0, 0));
        refuses("check", scene, -3, x -> x.check(0, 5, 0, 0, 0));
        refuses("row", RefusedTest::fullRows, -3, x -> x.row(4, 1));
        refuses("make", RefusedTest::fullObjects, -3, x -> x.make(0));
        refuses("keep", RefusedTest::nearlyFullTable, -3, x -> x.keep(64));
    }

    private static void refusedRowsAndObjects() {
        Supplier<FamilyFields> scene = RefusedTest::objects;
        refuses("row(8, 1)", scene, -1, x -> x.row(8, 1));
        refuses("row(0, 17)", scene, -1, x -> x.row(0, 17));
        refuses("row(0, -1)", scene, -14, x -> x.row(0, -1));
        refuses("put(3, 0)", scene, -1, x -> x.put(3, 0, 5));
        refuses("put(-1, 0)", scene, -1, x -> x.put(-1, 0, 5));
        refuses("put(1, 2)", scene, -15, x -> x.put(1, 2, 5));
        refuses("put(1, -1)", scene, -15, x -> x.put(1, -1, 5));
        refuses("give(-1)", scene, -1, x -> x.give(-1, 5));
        refuses("give(6)", scene, -1, x -> x.give(6, 5));
        refuses("make(2)", scene, -1, x -> x.make(2));
        refuses("make(-1)", scene, -1, x -> x.make(-1));
        // What a make() that is refused for its draft leaves behind: nothing but the draft that was given.
        String[] drafts = {"constant", "set", "row", "object"};
        long[][] bad = {{0, 2}, {1, 4}, {2, 1}, {3, 2}};
        for (int i = 0; i < 4; i++) {
            long[] each = bad[i];
            Supplier<FamilyFields> given = () -> {
                FamilyFields x = RefusedTest.types();
                x.make(0);
                x.load(1);
                x.give((int) each[0], each[1]);
                return x;
            };
            refuses("make of no such " + drafts[i], given, -1, x -> x.make(1));
        }
    }

    private static void refusedTable() {
        Supplier<FamilyFields> scene = RefusedTest::objects;
        refuses("keep(4)", scene, -1, x -> x.keep(4));
        refuses("keep(-1)", scene, -1, x -> x.keep(-1));
        refuses("load(2)", scene, -1, x -> x.load(2));
        refuses("load(-1)", scene, -1, x -> x.load(-1));
        refuses("load that is loaded", scene, 2, x -> x.load(1));
        refuses("named of no enumeration", scene, -1, x -> x.named(2, 'a'));
        refuses("named that has failed", scene, -20, x -> x.named(1, 'a'));
        refuses("work of no constant", scene, Long.MIN_VALUE, x -> x.work(0, 2, 0, 0));
        refuses("work of no way", scene, Long.MIN_VALUE, x -> x.work(0, 0, 3, 0));
        refuses("work that has failed", scene, Long.MIN_VALUE + 10, x -> x.work(1, 0, 0, 0));
    }

    /** Calls that ask change nothing, whatever they ask. */
    private static void asking() {
        int[] numbers = {LEAST, -2, -1, 0, 1, 2, 63, 64, MOST};
        for (int n : numbers) {
            refuses("asking with " + n, RefusedTest::objects, 0, x -> {
                x.item(n, n);
                x.item(0, n);
                x.size(n);
                x.cause(n);
                x.told(n, n);
                x.told(0, n);
                x.of(n);
                x.tag(n, n);
                x.same(n, 0);
                x.started(n);
                x.line(n, n);
                x.line(0, n);
                x.word(n, n, n);
                x.range(n, n, n, n, n);
                x.count(n);
                x.about(n, n);
                return 0;
            });
        }
    }
}
