import java.util.ArrayList;
import java.util.List;
import java.util.Random;
import java.util.TreeMap;

/** Long runs of chosen calls, each run on a new object, whose every answer is compared with the model's. */
public final class ModelTest {
    private static final int RUNS = 3000;
    private static final int CALLS = 512;

    private static final long[] NUMBERS = {0, 1, -1, 2, 3, 5, 7, 8, 9, -7, -8, -9, 16, 127, 128, 200, 255, 256, -128, -129,
        32767, 32768, -32768, 65535, 65536, (1L << 24) + 1, (1L << 24) + 3, -(1L << 24) - 1, Integer.MAX_VALUE,
        Integer.MIN_VALUE, 1L << 32, (1L << 53) + 1, (1L << 53) + 3, Long.MAX_VALUE, Long.MIN_VALUE, Long.MAX_VALUE - 512,
        0x80000000L, 0x7f800000L, 0xff800000L, 0x7f800001L, 0x7fc00000L, 0xffc12345L, 0x3fc00000L, 0xbfc00000L, 0x40400000L,
        0x40400001L, 1L, 0x7fffffL, 0x800000L, 0x7f7fffffL, 0x7ff0000000000000L, 0xfff0000000000000L, 0x7ff0000000000001L,
        0xfff8000000000123L, 0x3ff8000000000000L, 0xc008000000000000L, 0x4008000000000000L, 0x4008000000000001L,
        0x8000000000000000L};

    private static final long[] NO_NAMES = {0, 96, 123, 65, -1, 0x6100, 0x610061, 0x61620063L, 0x6161616161616100L,
        0x8061616161616161L, 0x7b61616161616161L, 0x61000000000000L << 8 | 97};

    private final Random random;
    private final Model model = new Model();
    private final FamilyFields fields = new FamilyFields();
    private final List<String> history = new ArrayList<>();
    private final int[] weights = new int[34];
    private final int mostRecords;
    private final int mostEnumerations;
    private int calls;
    private boolean differs;

    private static final TreeMap<String, Integer> SEEN = new TreeMap<>();

    private ModelTest(long seed) {
        random = new Random(seed);
        for (int i = 0; i < weights.length; i++) weights[i] = random.nextInt(4) == 0 ? 0 : 1 + random.nextInt(8);
        // Few types with much in them come to more than many types with little.
        mostRecords = 1 + random.nextInt(random.nextBoolean() ? 2 : 6);
        mostEnumerations = 1 + random.nextInt(random.nextBoolean() ? 2 : 4);
    }

    public static void main(String[] args) {
        int runs = args.length > 0 ? Integer.parseInt(args[0]) : RUNS;
        int wrong = 0;
        for (int seed = 1; seed <= runs && wrong < 3; seed++) {
            ModelTest test = new ModelTest(seed);
            test.run();
            if (!test.differs) continue;
            wrong++;
            System.out.println("run " + seed + ":");
            int from = Math.max(0, test.history.size() - 60);
            for (String row : test.history.subList(from, test.history.size())) System.out.println("  " + row);
        }
        for (String must : MUST) {
            if (SEEN.containsKey(must) || runs < RUNS) continue;
            wrong++;
            System.out.println("no run came to " + must);
        }
        if (args.length > 1) SEEN.forEach((what, times) -> System.out.println(what + ": " + times));
        System.out.println(runs + " runs, " + wrong + " not as due");
        if (wrong != 0) System.exit(1);
    }

    /** Answers that the runs must come to, or they would show too little. */
    private static final String[] MUST = {"make -1", "make -3", "make -11", "make -12", "make -13", "make -14", "make -15",
        "make -16", "make -17", "make -19", "make -20", "make ok", "load -1", "load -11", "load -12", "load -13", "load -14",
        "load -15", "load -16", "load -17", "load -18", "load -19", "load -20", "load ok", "keep -1", "keep -3", "keep ok",
        "row -3", "row -14", "part -2", "part -3", "check -3", "permit -3", "constant -3", "constant -2", "same 0", "same 1",
        "named -18", "named -19", "named -20", "enumeration -3", "record -3", "family -3", "put -15", "exchange -2",
        "forget -2", "fails -2", "fails 1", "permit -2", "without -2", "becomes -2", "check -2", "record -2", "family -2"};

    private void run() {
        int setup = 30 + random.nextInt(60);
        while (calls < CALLS && !differs) {
            if (calls < setup) type();
            else any();
        }
    }

    private void both(String call, String arguments, long got, long want) {
        calls++;
        history.add(call + "(" + arguments + ") answered " + got + (got == want ? "" : ", due is " + want));
        differs |= got != want;
        boolean coded = want < 0 && want > -30;
        boolean said = call.equals("same") || call.equals("fails");
        SEEN.merge(call + " " + (coded || said ? want : "ok"), 1, Integer::sum);
    }

    // ---- arguments

    private int below(int n, int wild) {
        if (random.nextInt(25) == 0) {
            int[] odd = {-1, n, n + 1, -2, wild, Integer.MIN_VALUE, Integer.MAX_VALUE};
            return odd[random.nextInt(odd.length)];
        }
        return n <= 0 ? 0 : random.nextInt(n);
    }

    private int anEnumeration() {
        return below(model.enumerations.size(), 4);
    }

    private int aRecord() {
        return below(model.records.size(), 6);
    }

    private int aFamily() {
        return below(model.families.size(), 3);
    }

    private int anObject() {
        return below(model.objects.size(), 100);
    }

    private int aLine() {
        return below(model.lines.size(), 64);
    }

    private int aRow() {
        return below(model.rows.size(), 40);
    }

    private int aPart(int record) {
        return below(Model.has(model.records, record) ? model.records.get(record).parts.size() : 0, 6);
    }

    private int aConstant(int enumeration) {
        boolean is = Model.has(model.enumerations, enumeration);
        return below(is ? model.enumerations.get(enumeration).constants.size() : 0, 8);
    }

    private long aName() {
        if (random.nextInt(30) == 0) return NO_NAMES[random.nextInt(NO_NAMES.length)];
        String[] names = {"a", "b", "c", "d", "e", "f", "g", "z", "ab", "abcdefgh", "zzzzzzzz"};
        return Due.name(names[random.nextInt(random.nextInt(4) == 0 ? names.length : 6)]);
    }

    private long number() {
        int kind = random.nextInt(10);
        if (kind < 5) return NUMBERS[random.nextInt(NUMBERS.length)];
        if (kind < 7) return random.nextInt(20) - 6;
        if (kind == 7) return Float.floatToIntBits(random.nextInt(20) - 10 + random.nextInt(4) / 4f);
        if (kind == 8) return Double.doubleToLongBits(random.nextInt(20) - 10 + random.nextInt(4) / 4.0);
        return random.nextLong() >> random.nextInt(64);
    }

    private int ofFor(int sort) {
        if (sort == 8 || sort == 9) return anEnumeration();
        if (sort == 11) return aFamily();
        return sort == 10 ? below(random.nextBoolean() ? 2 : 8, 8) : random.nextInt(9) - 4;
    }

    private int aSort() {
        return random.nextInt(3) == 0 ? 8 + below(4, 4) : below(12, 12);
    }

    private long fitting(Model.Part part) {
        if (random.nextInt(60) == 0) return number();
        if (part.sort() <= 7) return random.nextInt(3) > 0 ? random.nextInt(5) : number();
        if (part.sort() == 9) return random.nextInt(1 << model.enumerations.get(part.of()).constants.size());
        if (random.nextInt(8) == 0) return -1;
        List<Integer> all = new ArrayList<>();
        int most = part.sort() == 8 ? 8 : part.sort() == 10 ? model.rows.size() : model.objects.size();
        for (int i = 0; i < most; i++) if (model.fits(part, i)) all.add(i);
        if (all.isEmpty()) return -1;
        return random.nextBoolean() ? all.get(all.size() - 1) : all.get(random.nextInt(all.size()));
    }

    // ---- calls

    private void type() {
        int kind = random.nextInt(22);
        if (kind < 3 && model.enumerations.size() >= mostEnumerations && random.nextInt(40) > 0) kind = 3;
        boolean enough = model.records.size() >= mostRecords && random.nextInt(40) > 0;
        if (kind >= 11 && kind < 13 && enough) kind = 13 + random.nextInt(7);
        if (kind < 3) both("enumeration", "", fields.enumeration(), model.enumeration());
        else if (kind < 7) constant();
        else if (kind < 8) both("family", "", fields.family(), model.family());
        else if (kind < 11) permit();
        else if (kind < 13) both("record", "", fields.record(), model.record());
        else if (kind < 18) part();
        else if (kind < 20) check();
        else change();
    }

    private void any() {
        int sum = 0;
        for (int w : weights) sum += w;
        int at = random.nextInt(sum + 1);
        int op = 0;
        while (op < weights.length - 1 && at >= weights[op]) at -= weights[op++];
        if (op < 6) makeFitting();
        else if (op < 8) keep();
        else if (op < 10) load();
        else if (op == 10) buildAndChange();
        else if (op == 11) type();
        else if (op == 12) row();
        else if (op == 13) put();
        else if (op == 14) named();
        else if (op == 15) work();
        else if (op < 18) look();
        else if (op == 18) make();
        else if (op == 19) same();
        else if (op == 20) chain();
        else if (op == 21) tellAll();
        else if (op == 22) give();
        else if (op == 23) manyRows();
        else if (op == 24) buildAndChange();
        else lookUp();
    }

    private void constant() {
        int e = anEnumeration();
        long name = aName();
        boolean bodied = random.nextBoolean();
        both("constant", e + ", " + name + ", " + bodied, fields.constant(e, name, bodied), model.constant(e, name, bodied));
    }

    private void permit() {
        int f = aFamily();
        boolean isFamily = random.nextInt(3) == 0;
        int m = isFamily ? below(f, 3) : aRecord();
        both("permit", f + ", " + isFamily + ", " + m, fields.permit(f, isFamily, m), model.permit(f, isFamily, m));
    }

    private void part() {
        int r = aRecord();
        long name = aName();
        int sort = aSort();
        int of = ofFor(sort);
        long standard = number();
        both("part", r + ", " + name + ", " + sort + ", " + of + ", " + standard, fields.part(r, name, sort, of, standard),
                model.part(r, name, sort, of, standard));
    }

    private void check() {
        int r = aRecord();
        int p = aPart(r);
        int kind = below(7, 7);
        if (random.nextInt(3) > 0 && Model.has(model.records, r) && Model.has(model.records.get(r).parts, p)) {
            int sort = model.records.get(r).parts.get(p).sort();
            for (int i = 0; i < 7 && !(Model.has(Model.CHECKED, kind) && Model.CHECKED.get(kind).contains(sort)); i++) {
                kind = random.nextInt(7);
            }
        }
        long a = random.nextInt(3) == 0 ? number() : random.nextInt(6) - 2;
        long b = random.nextInt(3) == 0 ? number() : random.nextInt(9);
        both("check", r + ", " + p + ", " + kind + ", " + a + ", " + b, fields.check(r, p, kind, a, b),
                model.check(r, p, kind, a, b));
    }

    private void change() {
        int kind = random.nextInt(6);
        int e = anEnumeration();
        int c = aConstant(e);
        int d = aConstant(e);
        int r = aRecord();
        int p = aPart(r);
        if (kind == 0) both("exchange", e + ", " + c + ", " + d, fields.exchange(e, c, d), model.exchange(e, c, d));
        else if (kind == 1) both("forget", e + ", " + c, fields.forget(e, c), model.forget(e, c));
        else if (kind == 2) {
            boolean is = random.nextInt(3) == 0;
            both("fails", e + ", " + is, fields.fails(e, is), model.fails(e, is));
        } else if (kind == 3) both("without", r + ", " + p, fields.without(r, p), model.without(r, p));
        else becomes(r, p);
    }

    private void becomes(int r, int p) {
        int sort = aSort();
        if (random.nextInt(3) > 0 && Model.has(model.records, r) && Model.has(model.records.get(r).parts, p)) {
            int now = model.records.get(r).parts.get(p).sort();
            if (now <= 8) sort = Math.min(now == 8 ? 9 : 7, now + 1 + random.nextInt(3));
        }
        int of = ofFor(sort);
        both("becomes", r + ", " + p + ", " + sort + ", " + of, fields.becomes(r, p, sort, of), model.becomes(r, p, sort, of));
    }

    private void buildAndChange() {
        if (random.nextInt(3) > 0 && model.objects.size() < 60) {
            look();
            return;
        }
        both("build", "", fields.build(), model.build());
        int changes = random.nextInt(6);
        for (int i = 0; i < changes && calls < CALLS; i++) {
            if (random.nextInt(3) == 0) type();
            else if (random.nextInt(3) == 0) check();
            else change();
        }
        int loads = random.nextInt(5);
        for (int i = 0; i < loads && calls < CALLS; i++) load();
    }

    private void manyRows() {
        int rows = random.nextInt(4) == 0 ? 30 : 3;
        for (int i = 0; i < rows && calls < CALLS; i++) row();
    }

    private void row() {
        int lane = below(random.nextBoolean() ? 2 : 8, 8);
        int n = below(random.nextBoolean() ? 4 : 17, 17);
        both("row", lane + ", " + n, fields.row(lane, n), model.row(lane, n));
    }

    private void put() {
        int row = aRow();
        int i = below(Math.max(0, model.size(row)), 16);
        long bits = number();
        both("put", row + ", " + i + ", " + bits, fields.put(row, i, bits), model.put(row, i, bits));
    }

    private void give() {
        int k = below(6, 6);
        long bits = number();
        both("give", k + ", " + bits, fields.give(k, bits), model.give(k, bits));
    }

    private void make() {
        int r = aRecord();
        both("make", "" + r, fields.make(r), model.make(r));
    }

    private void makeFitting() {
        if (model.records.isEmpty()) {
            type();
            return;
        }
        int r = random.nextInt(model.records.size());
        List<Model.Part> parts = model.records.get(r).parts;
        for (int p = 0; p < parts.size() && calls < CALLS - 1; p++) {
            if (model.fits(parts.get(p), model.draft[p]) && random.nextInt(3) == 0) continue;
            long bits = fitting(parts.get(p));
            both("give", p + ", " + bits, fields.give(p, bits), model.give(p, bits));
        }
        both("make", "" + r, fields.make(r), model.make(r));
    }

    /** Objects of one record, each a part of the next, where the record has a part for that. */
    private void chain() {
        if (random.nextInt(4) > 0) return;
        makeFitting();
        for (int i = 0; i < 40 && calls + 4 < CALLS; i++) {
            int last = model.objects.size() - 1;
            if (last < 0) return;
            int r = model.objects.get(last).record;
            List<Model.Part> parts = model.records.get(r).parts;
            for (int p = 0; p < parts.size() && calls < CALLS - 1; p++) {
                boolean links = parts.get(p).sort() == 11 && model.fits(parts.get(p), last) && random.nextInt(3) > 0;
                if (links) both("give", p + ", " + last, fields.give(p, last), model.give(p, last));
            }
            both("make", "" + r, fields.make(r), model.make(r));
            if (model.objects.size() - 1 == last) return;
        }
    }

    private void same() {
        int a = anObject();
        int b = anObject();
        both("same", a + ", " + b, fields.same(a, b), model.same(a, b));
    }

    private void keep() {
        int o = random.nextInt(3) == 0 ? model.objects.size() - 1 : anObject();
        both("keep", "" + o, fields.keep(o), model.keep(o));
    }

    private void load() {
        int l = random.nextInt(3) == 0 ? model.lines.size() - 1 : aLine();
        both("load", "" + l, fields.load(l), model.load(l));
        for (int what = 0; what < 5 && calls < CALLS && random.nextInt(3) == 0; what++) cause(what);
    }

    private void cause(int what) {
        both("cause", "" + what, fields.cause(what), model.cause(what));
    }

    private void named() {
        int e = anEnumeration();
        long name = aName();
        both("named", e + ", " + name, fields.named(e, name), model.named(e, name));
    }

    private void work() {
        int e = anEnumeration();
        int c = aConstant(e);
        int way = below(3, 3);
        int n = (int) number();
        both("work", e + ", " + c + ", " + way + ", " + n, fields.work(e, c, way, n), model.work(e, c, way, n));
    }

    private void look() {
        int kind = random.nextInt(9);
        int o = anObject();
        int row = aRow();
        if (kind == 0) {
            int p = below(6, 6);
            both("told", o + ", " + p, fields.told(o, p), model.told(o, p));
        } else if (kind == 1) both("of", "" + o, fields.of(o), model.of(o));
        else if (kind == 2) {
            int f = aFamily();
            both("tag", o + ", " + f, fields.tag(o, f), model.tag(o, f));
        } else if (kind == 3) cause(below(5, 5));
        else if (kind == 4) {
            int i = below(11, 11);
            both("started", "" + i, fields.started(i), model.started(i));
        } else if (kind == 5) {
            int i = below(Math.max(0, model.size(row)), 16);
            both("item", row + ", " + i, fields.item(row, i), model.item(row, i));
        } else if (kind == 6) both("size", "" + row, fields.size(row), model.size(row));
        else if (kind == 7) {
            int what = below(8, 8);
            both("count", "" + what, fields.count(what), model.count(what));
        } else {
            int type = below(6, 6);
            int what = below(5, 5);
            both("about", type + ", " + what, fields.about(type, what), model.about(type, what));
        }
    }

    private void tellAll() {
        int o = model.objects.size() - 1;
        for (int p = 0; p < 6 && calls < CALLS; p++) both("told", o + ", " + p, fields.told(o, p), model.told(o, p));
    }

    private void lookUp() {
        int kind = random.nextInt(4);
        long part = aName();
        int i = random.nextInt(3) == 0 ? -1 : below(10, -1);
        if (kind == 0) {
            int l = aLine();
            int what = below(4, 4);
            both("line", l + ", " + what, fields.line(l, what), model.line(l, what));
        } else if (kind == 1) {
            long name = aName();
            both("word", part + ", " + name + ", " + i, fields.word(part, name, i), model.word(part, name, i));
        } else if (kind == 2) {
            int e = anEnumeration();
            int low = below(6, -7);
            int high = below(8, 9);
            both("range", part + ", " + e + ", " + low + ", " + high + ", " + i, fields.range(part, e, low, high, i),
                    model.range(part, e, low, high, i));
        } else look();
    }
}
