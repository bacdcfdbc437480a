/** Promises 15 to 18: rows, and what the bits of each lane are. */
public final class RowsTest {
    private static final Due due = new Due();

    public static void main(String[] args) {
        rowCall();
        fortyRows();
        putAndItem();
        lanes();
        due.end();
    }

    private static void rowCall() {
        FamilyFields x = new FamilyFields();
        due.is("15: lane below", x.row(-1, 1), -1);
        due.is("15: lane above", x.row(8, 1), -1);
        due.is("15: n above", x.row(0, 17), -1);
        due.is("15: n far above", x.row(0, Integer.MAX_VALUE), -1);
        due.is("15: n below", x.row(0, -1), -14);
        due.is("15: n far below", x.row(7, Integer.MIN_VALUE), -14);
        due.is("15: lane ahead of n", x.row(8, -1), -1);
        due.is("21: no cause of that", x.cause(0), 0);
        due.is("15: none of these was made", x.count(3), 0);
        due.is("15: of none", x.row(0, 0), 0);
        due.is("15: of 16", x.row(7, 16), 1);
        due.is("18: 0", x.size(0), 0);
        due.is("18: 16", x.size(1), 16);
        due.is("18: no row", x.size(2), -1);
        due.is("18: below", x.size(-1), -1);
        for (int i = 0; i < 16; i++) due.is("15: 0 at first", x.item(1, i), 0);
    }

    private static void fortyRows() {
        FamilyFields x = new FamilyFields();
        x.record();
        x.part(0, 'a', 10, 2, 0);
        x.row(2, 4);
        x.make(0);
        x.keep(0);
        x.build();
        x.load(0);
        for (int i = 1; i <= 40; i++) due.is("15: behind the loaded one", x.row(1, 1), i);
        due.is("15: FULL", x.row(1, 1), -3);
        due.is("15: FULL ahead of -14", x.row(1, -1), -3);
        due.is("15: BAD ahead of FULL", x.row(1, 17), -1);
        due.is("34: rows", x.count(3), 41);
        x.build();
        due.is("15: in a new build", x.row(1, 1), 0);
        for (int i = 1; i < 40; i++) x.row(1, 1);
        due.is("15: FULL again", x.row(1, 1), -3);
        due.is("30: a loaded one has room still", x.load(0), 0);
        due.is("30: as row 40", x.told(0, 0), 40);
    }

    private static void putAndItem() {
        FamilyFields x = new FamilyFields();
        due.is("16: no row", x.put(0, 0, 1), -1);
        x.row(4, 3);
        x.row(4, 0);
        due.is("16: i below", x.put(0, -1, 1), -15);
        due.is("16: i above", x.put(0, 3, 1), -15);
        due.is("16: a row of none", x.put(1, 0, 1), -15);
        due.is("16: row below", x.put(-1, 0, 1), -1);
        due.is("16: row above", x.put(2, 9, 1), -1);
        due.is("21: no cause of that", x.cause(0), 0);
        due.is("16: put", x.put(0, 2, 11), 1);
        due.is("16: put", x.put(0, 0, 12), 1);
        due.is("17: item", x.item(0, 2), 11);
        due.is("17: item", x.item(0, 0), 12);
        due.is("17: item", x.item(0, 1), 0);
        due.is("17: none above", x.item(0, 3), 0);
        due.is("17: none below", x.item(0, -1), 0);
        due.is("17: no row", x.item(2, 0), 0);
        due.is("17: no row below", x.item(-1, 0), 0);
    }

    private static void lanes() {
        long[][] rows = {
            {0, 0, 0}, {0, 1, 1}, {0, -5, 1}, {0, Long.MIN_VALUE, 1}, {0, 256, 1},
            {1, 127, 127}, {1, 128, -128}, {1, 200, -56}, {1, 256, 0}, {1, -129, 127},
            {2, 32768, -32768}, {2, 65536 + 7, 7}, {2, -32769, 32767},
            {3, 65535, 65535}, {3, -1, 65535}, {3, 65536 + 7, 7},
            {4, 1L << 31, Integer.MIN_VALUE}, {4, (1L << 32) + 3, 3}, {4, -1, -1},
            {5, Long.MIN_VALUE, Long.MIN_VALUE}, {5, Long.MAX_VALUE, Long.MAX_VALUE},
            {6, 0x3fc00000L, 0x3fc00000L}, {6, 0x80000000L, Integer.MIN_VALUE}, {6, 0xbfc00000L, (int) 0xbfc00000L},
            {6, 0x7f800000L, 0x7f800000L}, {6, 0xff800000L, (int) 0xff800000L}, {6, 0x7f800001L, 0x7fc00000L},
            {6, 0xffc00000L, 0x7fc00000L}, {6, 0xff800001L, 0x7fc00000L}, {6, -1, 0x7fc00000L},
            {6, 0x1234567800000001L, 1}, {6, 0x7fffffffL, 0x7fc00000L},
            {7, 0x7ff0000000000000L, 0x7ff0000000000000L}, {7, 0xfff0000000000000L, 0xfff0000000000000L},
            {7, 0x7ff0000000000001L, 0x7ff8000000000000L}, {7, 0xfff8000000000000L, 0x7ff8000000000000L},
            {7, -1, 0x7ff8000000000000L}, {7, Long.MIN_VALUE, Long.MIN_VALUE}, {7, 1, 1},
        };
        for (long[] each : rows) {
            int lane = (int) each[0];
            FamilyFields x = new FamilyFields();
            x.row(lane, 2);
            x.put(0, 1, each[1]);
            due.is("17: bits " + each[1] + " of lane " + lane, x.item(0, 1), each[2]);
            x.record();
            x.part(0, 'a', lane, 0, 0);
            x.give(0, each[1]);
            x.make(0);
            due.is("22: bits " + each[1] + " of sort " + lane, x.told(0, 0), each[2]);
            due.is("10: standard " + each[1] + " of sort " + lane, standard(lane, each[1]), each[2]);
        }
    }

    private static long standard(int sort, long bits) {
        FamilyFields x = new FamilyFields();
        x.record();
        x.make(0);
        x.keep(0);
        x.build();
        x.part(0, 'a', sort, 0, bits);
        x.load(0);
        return x.told(0, 0);
    }
}
