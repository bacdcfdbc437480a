/** Promises 26 to 28: constants, their bodies, and who started. */
public final class ConstantsTest {
    private static final Due due = new Due();
    private static final long A = 'a', B = 'b', C = 'c';
    private static final long LEAST = Long.MIN_VALUE;

    public static void main(String[] args) {
        namedCall();
        workCall();
        bodies();
        failing();
        startedCall();
        startsOfObjects();
        due.end();
    }

    private static FamilyFields three() {
        FamilyFields x = new FamilyFields();
        x.enumeration();
        x.constant(0, A, true);
        x.constant(0, B, true);
        x.constant(0, C, false);
        return x;
    }

    private static void namedCall() {
        FamilyFields x = three();
        due.is("26: enumeration above", x.named(1, A), -1);
        due.is("26: enumeration below", x.named(-1, A), -1);
        due.is("28: nobody yet", x.started(0), -1);
        due.is("26: none of that name", x.named(0, 'd'), -18);
        due.is("26: it started all the same", x.started(0), 10);
        due.is("26: no name at all", x.named(0, 0), -18);
        due.is("26: a", x.named(0, A), 0);
        due.is("26: c", x.named(0, C), 2);
        due.is("28: once", x.started(1), -1);
        due.is("21: no cause of that", x.cause(0), 0);
    }

    private static void workCall() {
        FamilyFields x = three();
        due.is("27: enumeration above", x.work(1, 0, 0, 0), LEAST);
        due.is("27: enumeration below", x.work(-1, 0, 0, 0), LEAST);
        due.is("27: constant above", x.work(0, 3, 0, 0), LEAST);
        due.is("27: constant below", x.work(0, -1, 0, 0), LEAST);
        due.is("27: way above", x.work(0, 0, 3, 0), LEAST);
        due.is("27: way below", x.work(0, 0, -1, 0), LEAST);
        due.is("27: nobody started by these", x.started(0), -1);
        due.is("27: work", x.work(0, 2, 2, 5), 7);
        due.is("27: it started", x.started(0), 10);
    }

    private static void bodies() {
        FamilyFields x = three();
        due.is("27: bodied 0 once", x.work(0, 0, 0, 5), 14);
        due.is("27: bodied 0 twice", x.work(0, 0, 1, 5), 41);
        due.is("27: bodied 0 plain", x.work(0, 0, 2, 5), 5);
        due.is("27: bodied 1 once", x.work(0, 1, 0, 5), 17);
        due.is("27: bodied 1 twice", x.work(0, 1, 1, 5), -12);
        due.is("27: bodied 1 plain", x.work(0, 1, 2, 5), 6);
        due.is("27: 2 once", x.work(0, 2, 0, 5), 7);
        due.is("27: 2 twice", x.work(0, 2, 1, 5), 9);
        due.is("27: 2 plain", x.work(0, 2, 2, 5), 7);
        x.exchange(0, 1, 2);
        due.is("27: not bodied, odd", x.work(0, 1, 1, 5), 7);
        due.is("27: bodied 2 twice", x.work(0, 2, 1, 5), (20 + 2) * 3 - 1);
        int most = Integer.MAX_VALUE;
        due.is("27: goes round, once", x.work(0, 2, 0, most), (most + 2) * 3 - 1);
        due.is("27: goes round, plain", x.work(0, 1, 2, most), Integer.MIN_VALUE);
        due.is("27: goes round, twice", x.work(0, 1, 1, most), Integer.MIN_VALUE + 1);
        x.exchange(0, 1, 2);
        due.is("27: goes round, less", x.work(0, 1, 1, most), most - ((most + 1) * 3 - 1));
        due.is("27: goes round, thrice", x.work(0, 0, 0, 1 << 30), (1 << 30) * 3 - 1);
    }

    private static void failing() {
        FamilyFields x = three();
        x.fails(0, true);
        due.is("27: BAD ahead of the start", x.work(0, 3, 0, 0), LEAST);
        due.is("27: INIT", x.work(0, 0, 0, 0), LEAST + 9);
        due.is("27: NOT", x.work(0, 0, 0, 0), LEAST + 10);
        due.is("26: NOT", x.named(0, A), -20);
        due.is("26: NOT ahead of the name", x.named(0, 'z'), -20);
        due.is("28: it has not started", x.started(0), -1);
        due.is("21: no cause of that", x.cause(0), 0);
        x.fails(0, false);
        due.is("26: NOT, though it would not fail now", x.named(0, A), -20);
        x.build();
        due.is("26: in a new build", x.named(0, A), 0);
        x.fails(0, true);
        due.is("26: it has started before", x.named(0, B), 1);
        x.build();
        due.is("26: INIT", x.named(0, B), -19);
        x.build();
        due.is("26: INIT again in a new build", x.named(0, B), -19);
        due.is("26: then NOT", x.named(0, B), -20);
    }

    private static void startedCall() {
        FamilyFields x = three();
        x.enumeration();
        x.constant(1, A, false);
        x.record();
        x.record();
        x.named(1, A);
        x.make(1);
        x.work(0, 0, 0, 0);
        x.make(0);
        x.make(1);
        int[] order = {11, 1, 10, 0, -1};
        for (int i = 0; i < order.length; i++) due.is("28: started(" + i + ")", x.started(i), order[i]);
        due.is("28: below", x.started(-1), -1);
        due.is("28: far above", x.started(Integer.MAX_VALUE), -1);
        x.build();
        due.is("28: nobody in a new build", x.started(0), -1);
        x.make(0);
        due.is("28: from 0 on again", x.started(0), 0);
        everyone();
    }

    private static void everyone() {
        FamilyFields x = new FamilyFields();
        for (int i = 0; i < 4; i++) x.enumeration();
        for (int i = 0; i < 6; i++) x.record();
        for (int i = 0; i < 4; i++) x.named(i, A);
        for (int i = 0; i < 6; i++) x.make(i);
        for (int i = 0; i < 10; i++) due.is("28: started(" + i + ")", x.started(i), i < 4 ? 10 + i : i - 4);
        due.is("28: started(10)", x.started(10), -1);
    }

    private static void startsOfObjects() {
        FamilyFields x = three();
        for (int e = 1; e < 3; e++) {
            x.enumeration();
            x.constant(e, A, false);
        }
        x.record();
        x.part(0, A, 9, 2, 0);
        x.part(0, B, 8, 1, 0);
        x.part(0, C, 8, 0, 0);
        x.check(0, 2, 1, 0, 0);
        x.give(0, 0);
        x.give(1, -1);
        x.give(2, -1);
        due.is("20: NULL", x.make(0), -12);
        due.is("20: the record started", x.started(0), 0);
        due.is("20: no enumeration of none, of an empty set", x.started(1), -1);
        x.give(0, 1);
        x.give(1, 0);
        due.is("20: NULL", x.make(0), -12);
        due.is("20: by parts in order", x.started(1), 12);
        due.is("20: then the next", x.started(2), 11);
        due.is("20: no more", x.started(3), -1);
        x.fails(0, true);
        x.give(2, 1);
        due.is("20: INIT", x.make(0), -19);
        due.is("21: code", x.cause(0), 9);
        due.is("21: record", x.cause(1), 0);
        due.is("21: part", x.cause(2), 2);
        due.is("21: no check", x.cause(3), -1);
        due.is("21: no line", x.cause(4), -1);
        due.is("20: NOT", x.make(0), -20);
        due.is("21: code", x.cause(0), 10);
    }
}
