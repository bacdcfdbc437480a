/** Promises 29 to 35: keeping, loading in other builds, and looking up. */
public final class TableTest {
    private static final Due due = new Due();
    private static final long A = 'a', B = 'b', C = 'c', D = 'd';

    public static void main(String[] args) {
        keepOrder();
        keepOnce();
        keepFull();
        keepDeep();
        roomIsCountedAnew();
        itemsAsTheyWere();
        partsCameAndWent();
        sortsThatGo();
        constantsMoved();
        setsLeftOut();
        rowsOnce();
        objectsOfParts();
        familiesNow();
        castAheadOfTheObject();
        startsAndChecks();
        aheadOfTheStart();
        loadDeep();
        lineCall();
        wordCall();
        rangeCall();
        countCall();
        aboutCall();
        due.end();
    }

    private static int make(FamilyFields x, int record, long... draft) {
        for (int i = 0; i < draft.length; i++) x.give(i, draft[i]);
        return x.make(record);
    }

    /** Record 0 with two parts for objects of record 0, and an int. */
    private static FamilyFields pairs() {
        FamilyFields x = new FamilyFields();
        x.family();
        x.record();
        x.permit(0, false, 0);
        x.part(0, A, 11, 0, 0);
        x.part(0, B, 11, 0, 0);
        x.part(0, C, 4, 0, 0);
        return x;
    }

    private static void keepOrder() {
        FamilyFields x = pairs();
        make(x, 0, -1, -1, 10);
        make(x, 0, -1, -1, 11);
        make(x, 0, 1, 0, 12);
        make(x, 0, 0, -1, 13);
        make(x, 0, 3, 2, 14);
        due.is("29: no object", x.keep(5), -1);
        due.is("29: below", x.keep(-1), -1);
        due.is("29: all it needs, then it", x.keep(4), 4);
        due.is("34: lines", x.count(5), 5);
        due.is("29: the parts' parts first", x.keep(0), 0);
        due.is("29: then the first part", x.keep(3), 1);
        due.is("29: then in the second", x.keep(1), 2);
        due.is("29: then the second", x.keep(2), 3);
        due.is("34: lines", x.count(5), 5);
        x.build();
        int[] loaded = {10, 13, 11, 12, 14};
        for (int i = 0; i < 5; i++) due.is("30: what it is", x.told(x.load(i), 2), loaded[i]);
    }

    private static void keepOnce() {
        FamilyFields x = pairs();
        make(x, 0, -1, -1, 1);
        due.is("29: keep", x.keep(0), 0);
        due.is("29: once", x.keep(0), 0);
        due.is("30: a line of this build is loaded anew", x.load(0), 1);
        due.is("30: once", x.load(0), 1);
        due.is("29: what was loaded is kept anew", x.keep(1), 1);
        due.is("29: the first has its line", x.keep(0), 0);
        x.build();
        due.is("30: load", x.load(0), 0);
        due.is("29: in another build kept anew", x.keep(0), 2);
        due.is("29: then it has that line", x.keep(0), 2);
        due.is("30: and the line its object", x.load(0), 0);
    }

    private static void keepFull() {
        FamilyFields x = pairs();
        for (int i = 0; i < 62; i++) due.is("29: keep", x.keep(make(x, 0, -1, -1, i)), i);
        make(x, 0, -1, -1, 62);
        make(x, 0, 62, 0, 63);
        make(x, 0, 63, 63, 64);
        due.is("29: three have no room", x.keep(64), -3);
        due.is("29: none is", x.count(5), 62);
        due.is("29: two have", x.keep(63), 63);
        due.is("34: lines", x.count(5), 64);
        due.is("29: one more", x.keep(64), -3);
        due.is("29: what has its line has it", x.keep(63), 63);
        due.is("29: BAD ahead of FULL", x.keep(65), -1);
        x.build();
        due.is("30: the last line", x.load(63), 2);
        due.is("22: its part", x.told(2, 1), 1);
        due.is("29: still full", x.keep(0), -3);
    }

    private static void keepDeep() {
        FamilyFields x = pairs();
        make(x, 0, -1, -1, 0);
        for (int i = 1; i < 100; i++) make(x, 0, i - 1, i - 1, i);
        due.is("29: too deep", x.keep(64), -3);
        due.is("29: none", x.count(5), 0);
        due.is("29: as deep as may be", x.keep(63), 63);
        due.is("29: no more", x.keep(64), -3);
        due.is("29: within", x.keep(30), 30);
    }

    private static void roomIsCountedAnew() {
        FamilyFields x = pairs();
        make(x, 0, -1, -1, 0);
        make(x, 0, 0, -1, 1);
        for (int i = 2; i < 65; i++) x.keep(make(x, 0, -1, -1, i));
        due.is("29: two have no room", x.keep(1), -3);
        due.is("29: one that needs no other has", x.keep(make(x, 0, -1, -1, 65)), 63);
    }

    private static void loadDeep() {
        FamilyFields x = pairs();
        make(x, 0, -1, -1, 7);
        for (int i = 1; i < 64; i++) make(x, 0, i - 1, i - 1, 7);
        x.keep(63);
        x.build();
        x.check(0, 2, 0, 7, 7);
        due.is("30: as deep as may be", x.load(63), 63);
        for (int i = 0; i < 64; i++) due.is("31: from the ground on", x.line(i, 3), i);
        x.build();
        x.becomes(0, 2, 0, 0);
        due.is("30: CAST at the ground", x.load(63), -16);
        due.is("21: the line", x.cause(4), 0);
        due.is("21: the part", x.cause(2), 2);
        due.is("34: no object", x.count(4), 0);
    }

    private static void itemsAsTheyWere() {
        FamilyFields x = new FamilyFields();
        x.record();
        x.part(0, A, 10, 1, 0);
        x.row(1, 2);
        x.row(1, 16);
        x.put(0, 0, 5);
        x.put(1, 15, 9);
        make(x, 0, 0);
        x.keep(0);
        x.put(0, 0, 6);
        make(x, 0, 0);
        x.keep(1);
        x.keep(make(x, 0, 1));
        x.keep(make(x, 0, -1));
        x.row(1, 0);
        x.keep(make(x, 0, 2));
        due.is("30: in this build a new row", x.told(x.load(0), 0), 3);
        due.is("17: as it was then", x.item(3, 0), 5);
        due.is("16: it is another one", x.put(3, 0, 7), 1);
        due.is("17: the old one stays", x.item(0, 0), 6);
        x.build();
        due.is("30: row 0", x.told(x.load(1), 0), 0);
        due.is("17: as it was", x.item(0, 0), 6);
        due.is("17: its other item", x.item(0, 1), 0);
        due.is("18: its size", x.size(0), 2);
        x.load(0);
        due.is("17: as it was first", x.item(1, 0), 5);
        x.load(2);
        due.is("18: 16", x.size(2), 16);
        due.is("17: the last", x.item(2, 15), 9);
        due.is("30: none", x.told(x.load(3), 0), -1);
        due.is("30: of no items", x.told(x.load(4), 0), 3);
        due.is("18: 0", x.size(3), 0);
        due.is("16: bits of its lane", x.put(2, 0, 200), 1);
        due.is("17: a byte", x.item(2, 0), -56);
    }

    private static void partsCameAndWent() {
        FamilyFields x = new FamilyFields();
        x.enumeration();
        x.constant(0, A, false);
        x.family();
        x.record();
        x.part(0, A, 4, 0, 0);
        x.part(0, B, 5, 0, 0);
        x.keep(make(x, 0, 1, 2));
        x.build();
        x.without(0, 0);
        x.part(0, C, 8, 0, 0);
        x.part(0, D, 9, 0, 1);
        x.part(0, 'e', 10, 0, 0);
        x.part(0, 'f', 11, 0, 0);
        x.part(0, A, 7, 0, 5);
        due.is("30: load", x.load(0), 0);
        due.is("30: by its name", x.told(0, 0), 2);
        due.is("30: no constant", x.told(0, 1), -1);
        due.is("30: an empty set", x.told(0, 2), 0);
        due.is("30: no row", x.told(0, 3), -1);
        due.is("30: no object", x.told(0, 4), -1);
        due.is("30: back under its name", x.told(0, 5), Double.doubleToLongBits(1));
        due.is("28: no enumeration of none", x.started(1), -1);
        x.build();
        x.without(0, 5);
        x.part(0, 'g', 7, 0, 5);
        due.is("30: standard", x.told(x.load(0), 5), 5);
        x.build();
        for (int i = 0; i < 6; i++) x.without(0, 0);
        due.is("30: of no parts", x.load(0), 0);
        due.is("31: its parts are kept", x.line(0, 2), 2);
    }

    private static void sortsThatGo() {
        String[] go = {"100000000000", "011011110000", "001011110000", "000111110000", "000011110000", "000001110000",
            "000000110000", "000000010000", "000000001100", "000000000100", "000000000010", "000000000001"};
        for (int from = 0; from < 12; from++) {
            for (int to = 0; to < 12; to++) {
                due.is("30: sort " + from + " to " + to, goes(from, 0, to, 0), go[from].charAt(to) == '1' ? 0 : -16);
            }
        }
        due.is("30: 8 of another enumeration", goes(8, 0, 8, 1), -16);
        due.is("30: 9 of another enumeration", goes(9, 0, 9, 1), -16);
        due.is("30: 8 to 9 of another enumeration", goes(8, 0, 9, 1), -16);
        due.is("30: 10 of another lane", goes(10, 4, 10, 5), -16);
        due.is("30: 11 of another family", goes(11, 0, 11, 1), 0);
        due.is("30: numbers, of is of no matter", goes(4, 7, 4, 8), 0);
    }

    /** What load() answers where a part of none (or 0) was kept as one sort and is another one now. */
    private static int goes(int from, int of, int to, int ofNow) {
        FamilyFields x = new FamilyFields();
        x.enumeration();
        x.enumeration();
        x.family();
        x.family();
        x.record();
        x.part(0, A, from, of, 0);
        x.keep(make(x, 0, from == 8 || from > 9 ? -1 : 0));
        x.build();
        x.becomes(0, 0, to, ofNow);
        return x.load(0);
    }

    private static void constantsMoved() {
        FamilyFields x = new FamilyFields();
        x.enumeration();
        for (int i = 0; i < 4; i++) x.constant(0, A + i, false);
        x.record();
        x.part(0, A, 4, 0, 0);
        x.part(0, B, 8, 0, 0);
        for (int i = -1; i < 4; i++) x.keep(make(x, 0, 0, i));
        x.build();
        x.exchange(0, 0, 3);
        x.forget(0, 1);
        int[] now = {-1, 2, -18, 1, 0};
        for (int i = 0; i < 5; i++) {
            int object = x.load(i);
            due.is("30: constant " + (i - 1), object < 0 ? object : x.told(object, 1), i == 2 ? -18 : now[i]);
        }
        int[] cause = {8, 0, 1, -1, 2};
        for (int i = 0; i < 5; i++) due.is("21: cause(" + i + ")", x.cause(i), cause[i]);
        due.is("34: none left out of constants", x.count(7), 0);
        x.build();
        x.constant(0, B, true);
        due.is("30: the name is back", x.told(x.load(2), 1), 3);
    }

    private static void setsLeftOut() {
        FamilyFields x = new FamilyFields();
        x.enumeration();
        for (int i = 0; i < 8; i++) x.constant(0, A + i, false);
        x.record();
        x.part(0, A, 9, 0, 0);
        x.part(0, B, 8, 0, 0);
        x.part(0, C, 4, 0, 0);
        x.keep(make(x, 0, 255, 1, 0));
        x.keep(make(x, 0, 0, -1, 0));
        x.keep(make(x, 0, 0x81, 0, 1));
        x.build();
        x.becomes(0, 1, 9, 0);
        x.forget(0, 1);
        x.exchange(0, 0, 6);
        due.is("30: load", x.load(0), 0);
        due.is("30: all that are left", x.told(0, 0), 127);
        due.is("30: a constant that went", x.told(0, 1), 0);
        due.is("34: left out", x.count(7), 2);
        due.is("30: once", x.load(0), 0);
        due.is("34: and counted once", x.count(7), 2);
        x.load(1);
        due.is("30: empty", x.told(1, 0), 0);
        due.is("30: of none", x.told(1, 1), 0);
        x.load(2);
        due.is("30: by their names", x.told(2, 0), 0x41);
        due.is("30: a set of that", x.told(2, 1), 0x40);
        due.is("34: no more", x.count(7), 2);
        x.build();
        due.is("34: over builds", x.count(7), 2);
        x.check(0, 2, 2, 0, 0);
        due.is("30: ZERO", x.load(0), -13);
        due.is("34: counted, though it failed", x.count(7), 4);
        due.is("30: ZERO", x.load(0), -13);
        due.is("34: and again", x.count(7), 6);
    }

    private static void rowsOnce() {
        FamilyFields x = new FamilyFields();
        x.record();
        x.part(0, A, 10, 4, 0);
        x.part(0, B, 10, 4, 0);
        x.part(0, C, 4, 0, 0);
        x.row(4, 1);
        x.put(0, 0, 3);
        x.keep(make(x, 0, 0, 0, 0));
        x.build();
        x.becomes(0, 2, 0, 0);
        due.is("30: CAST behind the rows", x.load(0), -16);
        due.is("34: they were made", x.count(3), 2);
        due.is("16: put", x.put(0, 0, 4), 1);
        due.is("30: again", x.load(0), -16);
        due.is("34: once", x.count(3), 2);
        x.becomes(0, 2, 4, 0);
        due.is("30: load", x.load(0), 0);
        due.is("30: a row of its own each", x.told(0, 0), 0);
        due.is("30: a row of its own each", x.told(0, 1), 1);
        due.is("17: as it was put", x.item(0, 0), 4);
        due.is("17: as it was kept", x.item(1, 0), 3);
        x.build();
        x.load(0);
        due.is("17: in a new build as it was kept", x.item(0, 0), 3);
        x.build();
        x.check(0, 0, 4, 1, 0);
        due.is("30: INDEX", x.load(0), -15);
        due.is("34: made, though it failed", x.count(3), 2);
        due.is("30: INDEX", x.load(0), -15);
        due.is("34: once", x.count(3), 2);
    }

    private static void objectsOfParts() {
        FamilyFields x = pairs();
        make(x, 0, -1, -1, 5);
        make(x, 0, -1, -1, 6);
        make(x, 0, 0, 1, 7);
        x.keep(make(x, 0, 2, 0, 8));
        x.build();
        x.check(0, 2, 0, 5, 7);
        due.is("30: the last fails", x.load(3), -11);
        due.is("21: its line", x.cause(4), 3);
        due.is("34: the others are loaded", x.count(4), 3);
        due.is("30: as objects of theirs", x.load(2), 2);
        due.is("22: part", x.told(2, 0), 0);
        due.is("22: part", x.told(2, 1), 1);
        x.build();
        x.becomes(0, 2, 4, 0);
        x.check(0, 2, 0, 6, 8);
        due.is("30: the first fails", x.load(3), -11);
        due.is("21: the line of the part", x.cause(4), 0);
        due.is("21: the check", x.cause(3), 0);
        due.is("34: none is loaded", x.count(4), 0);
        x.becomes(0, 2, 4, 0);
        due.is("30: load", x.load(3), 3);
        due.is("30: one object, one part", x.told(3, 1), x.told(2, 0));
    }

    private static void familiesNow() {
        FamilyFields x = new FamilyFields();
        x.family();
        x.family();
        for (int i = 0; i < 3; i++) x.record();
        x.permit(0, false, 0);
        x.permit(1, false, 1);
        x.part(2, A, 11, 0, 0);
        x.make(0);
        x.keep(make(x, 2, 0));
        x.keep(make(x, 2, -1));
        x.build();
        x.becomes(2, 0, 11, 1);
        due.is("30: none of the family now", x.load(1), -16);
        int[] cause = {6, 2, 0, -1, 1};
        for (int i = 0; i < 5; i++) due.is("21: cause(" + i + ")", x.cause(i), cause[i]);
        due.is("30: the part is loaded all the same", x.line(0, 3), 0);
        due.is("28: its record started alone", x.started(0), 0);
        due.is("28: not the other", x.started(1), -1);
        due.is("30: none is fine", x.load(2), 1);
        x.build();
        x.permit(1, false, 0);
        due.is("30: of the family now", x.load(1), 1);
    }

    private static void castAheadOfTheObject() {
        FamilyFields x = pairs();
        make(x, 0, -1, -1, 0);
        x.keep(make(x, 0, 0, -1, 0));
        x.build();
        x.becomes(0, 0, 4, 0);
        due.is("30: an object is no int", x.load(1), -16);
        due.is("31: it is not loaded for that", x.line(0, 3), -1);
        due.is("21: the line", x.cause(4), 1);
        x.becomes(0, 0, 11, 0);
        x.becomes(0, 2, 11, 0);
        due.is("30: an int is no object", x.load(1), -16);
        due.is("21: in the object of the part first", x.cause(4), 0);
        due.is("21: the part", x.cause(2), 2);
        due.is("34: no object", x.count(4), 0);
    }

    private static void startsAndChecks() {
        FamilyFields x = new FamilyFields();
        x.enumeration();
        x.constant(0, A, false);
        x.enumeration();
        x.constant(1, A, false);
        x.record();
        x.part(0, A, 8, 1, 0);
        x.part(0, B, 9, 0, 0);
        x.part(0, C, 8, 0, 0);
        x.keep(make(x, 0, 0, 1, -1));
        x.build();
        x.fails(0, true);
        due.is("30: INIT", x.load(0), -19);
        int[] cause = {9, 0, 1, -1, 0};
        for (int i = 0; i < 5; i++) due.is("21: cause(" + i + ")", x.cause(i), cause[i]);
        due.is("28: the record", x.started(0), 0);
        due.is("28: then the first part's", x.started(1), 11);
        due.is("28: not the other", x.started(2), -1);
        due.is("30: NOT", x.load(0), -20);
        x.build();
        x.fails(0, false);
        x.check(0, 2, 1, 0, 0);
        due.is("30: NULL", x.load(0), -12);
        due.is("28: it started", x.started(2), 10);
        due.is("21: check", x.cause(3), 0);
    }

    private static void aheadOfTheStart() {
        FamilyFields x = new FamilyFields();
        x.enumeration();
        x.constant(0, A, false);
        x.record();
        x.part(0, A, 8, 0, 0);
        x.part(0, B, 4, 0, 0);
        x.keep(make(x, 0, 0, 0));
        x.build();
        x.becomes(0, 1, 1, 0);
        due.is("30: CAST", x.load(0), -16);
        due.is("28: nobody started", x.started(0), -1);
        x.becomes(0, 1, 4, 0);
        x.forget(0, 0);
        due.is("30: UNKNOWN", x.load(0), -18);
        due.is("28: nobody started", x.started(0), -1);
    }

    private static void lineCall() {
        FamilyFields x = pairs();
        x.record();
        due.is("31: no line", x.line(0, 0), -1);
        x.build();
        x.make(1);
        x.keep(0);
        x.keep(make(x, 0, -1, -1, 0));
        due.is("31: record", x.line(0, 0), 1);
        due.is("31: build", x.line(0, 1), 1);
        due.is("31: parts", x.line(0, 2), 0);
        due.is("31: not loaded", x.line(0, 3), -1);
        due.is("31: record", x.line(1, 0), 0);
        due.is("31: parts", x.line(1, 2), 3);
        due.is("31: what above", x.line(0, 4), -1);
        due.is("31: what below", x.line(0, -1), -1);
        due.is("31: line above", x.line(2, 0), -1);
        due.is("31: line below", x.line(-1, 0), -1);
        x.load(1);
        due.is("31: loaded", x.line(1, 3), 2);
        due.is("31: the other not", x.line(0, 3), -1);
        x.build();
        due.is("31: not in this build", x.line(1, 3), -1);
        x.without(0, 0);
        due.is("31: parts as kept", x.line(1, 2), 3);
        due.is("30: below", x.load(-1), -1);
        due.is("30: above", x.load(2), -1);
    }

    /** Lines 0 to 6 with constants and sets of two enumerations, under the names a and b. */
    private static FamilyFields words() {
        FamilyFields x = new FamilyFields();
        for (int e = 0; e < 2; e++) {
            x.enumeration();
            for (int i = 0; i < 4; i++) x.constant(e, A + i, false);
            x.record();
            x.part(e, A, 8, e, 0);
            x.part(e, B, 9, e, 0);
        }
        x.record();
        x.part(2, A, 4, 0, 0);
        x.part(2, B, 10, 0, 0);
        x.keep(make(x, 0, 0, 6));
        x.keep(make(x, 0, -1, 1));
        x.keep(make(x, 1, 0, 9));
        x.keep(make(x, 1, 3, 0));
        x.row(0, 1);
        x.keep(make(x, 2, A, 0));
        x.keep(make(x, 0, 2, 15));
        return x;
    }

    private static void wordCall() {
        FamilyFields x = words();
        long[][] rows = {{A, A, -1, 2}, {A, A, 0, 0}, {A, A, 1, 2}, {A, A, 2, -1}, {A, A, -2, -1}, {A, B, -1, 0}, {A, B, 0, -1},
            {A, C, 0, 5}, {A, D, 0, 3}, {B, A, -1, 3}, {B, A, 0, 1}, {B, A, 1, 2}, {B, A, 2, 5}, {B, B, 0, 0}, {B, B, -1, 2},
            {B, C, 1, 5}, {B, D, 0, 2}, {B, D, -1, 2}, {C, A, -1, 0}, {C, A, 0, -1}, {0, A, -1, 0}, {A, 0, -1, 0},
            {A, 'e', -1, 0}, {A, A, Integer.MAX_VALUE, -1}, {A, A, Integer.MIN_VALUE, -1}};
        for (int pass = 0; pass < 2; pass++) {
            for (long[] r : rows) {
                due.is("32: word(" + r[0] + ", " + r[1] + ", " + r[2] + ")", x.word(r[0], r[1], (int) r[2]), r[3]);
            }
            // As it was kept, whatever types are now.
            x.build();
            x.forget(0, 0);
            x.without(0, 0);
        }
    }

    private static void rangeCall() {
        FamilyFields x = words();
        due.is("33: part a, all", x.range(A, 0, 0, 7, -1), 2);
        due.is("33: part a, 0", x.range(A, 0, 0, 0, 0), 0);
        due.is("33: part a, 2", x.range(A, 0, 2, 2, 0), 5);
        due.is("33: part a, 1", x.range(A, 0, 1, 1, 0), -1);
        due.is("33: part a, 1, how many", x.range(A, 0, 1, 1, -1), 0);
        due.is("33: of the other one", x.range(A, 1, 0, 3, -1), 2);
        due.is("33: of the other one", x.range(A, 1, 1, 3, 0), 3);
        due.is("33: sets", x.range(B, 0, 1, 2, -1), 2);
        due.is("33: sets", x.range(B, 0, 0, 0, 0), 1);
        due.is("33: sets", x.range(B, 0, 0, 0, 1), 5);
        due.is("33: sets", x.range(B, 0, 0, 0, 2), -1);
        due.is("33: low above high", x.range(B, 0, 2, 1, -1), 0);
        due.is("33: from far to far", x.range(B, 0, Integer.MIN_VALUE, Integer.MAX_VALUE, -1), 3);
        due.is("33: below", x.range(B, 0, -5, -1, -1), 0);
        due.is("33: no such part", x.range(C, 0, 0, 7, -1), 0);
        due.is("33: no enumeration", x.range(A, 2, 0, 7, -1), -1);
        due.is("33: no enumeration below", x.range(A, -1, 0, 7, 0), -1);
        due.is("33: i below", x.range(A, 0, 0, 7, -2), -1);
        x.build();
        x.exchange(0, 0, 3);
        x.forget(0, 2);
        due.is("33: a is at 2 now", x.range(A, 0, 2, 2, 0), 0);
        due.is("33: c is nowhere", x.range(A, 0, -9, 9, -1), 1);
        due.is("33: sets", x.range(B, 0, 2, 2, 0), 1);
        due.is("33: sets, b", x.range(B, 0, 1, 1, -1), 2);
        x.becomes(0, 0, 8, 1);
        due.is("33: as it was kept", x.range(A, 0, 2, 2, 0), 0);
    }

    private static void countCall() {
        FamilyFields x = words();
        x.family();
        int[] counts = {2, 3, 0, 1, 6, 6, 0, 0};
        for (int i = 0; i < counts.length; i++) due.is("34: count(" + i + ")", x.count(i), counts[i]);
        due.is("34: below", x.count(-1), -1);
        due.is("34: above", x.count(8), -1);
        x.build();
        x.family();
        x.forget(0, 0);
        x.load(1);
        x.load(4);
        int[] then = {2, 3, 1, 1, 2, 6, 1, 1};
        for (int i = 0; i < then.length; i++) due.is("34: count(" + i + ")", x.count(i), then[i]);
    }

    private static void aboutCall() {
        FamilyFields x = pairs();
        x.check(0, 2, 0, 0, 0);
        x.enumeration();
        x.enumeration();
        x.constant(1, A, false);
        x.family();
        x.record();
        x.permit(1, true, 0);
        x.permit(1, false, 0);
        int[][] about = {{0, 3, 1, 1, 1}, {1, 0, 0, 2, 1}, {-1, -1, -1, -1, -1}};
        for (int type = 0; type < 3; type++) {
            for (int what = 0; what < 5; what++) due.is("35: about(" + type + ", " + what + ")", x.about(type, what), about[type][what]);
        }
        for (int what = 0; what < 5; what++) due.is("35: below", x.about(-1, what), -1);
        due.is("35: what above", x.about(0, 5), -1);
        due.is("35: what below", x.about(0, -1), -1);
    }
}
