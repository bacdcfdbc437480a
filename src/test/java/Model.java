import java.util.ArrayList;
import java.util.HashMap;
import java.util.LinkedHashMap;
import java.util.LinkedHashSet;
import java.util.List;
import java.util.Map;
import java.util.Set;

/**
 * The document read once more, with the whole library, the machine's own floats and plain recursion: what
 * ModelTest compares FamilyFields with. Slow and unbounded where that is simpler.
 */
final class Model {
    record Constant(long name, boolean bodied) { }
    record Part(long name, int sort, int of, Object standard) { }
    record Check(Part part, int kind, long a, long b) { }
    record Member(boolean isFamily, int number) { }
    record Kept(Part part, Object value) { }
    record RowRef(int number) { }
    record ObjectRef(int number) { }
    record Thrown(int code, int record, int part, int check, int line) { }

    static final class Enumeration {
        List<Constant> constants = new ArrayList<>();
        boolean fails;

        int ordinal(long name) {
            for (Constant c : constants) if (c.name == name) return constants.indexOf(c);
            return -1;
        }
    }

    static final class RecordType {
        List<Part> parts = new ArrayList<>();
        List<Check> checks = new ArrayList<>();
    }

    static final class Row {
        int lane;
        Object[] items;
    }

    static final class Obj {
        int record;
        List<Object> parts = new ArrayList<>();
    }

    static final class Line {
        int record;
        int build;
        Map<Long, Kept> parts = new LinkedHashMap<>();
    }

    static final class Failure extends Exception {
        private static final long serialVersionUID = 1;
        final transient Thrown thrown;

        Failure(Thrown thrown) {
            this.thrown = thrown;
        }
    }

    final List<Enumeration> enumerations = new ArrayList<>();
    final List<RecordType> records = new ArrayList<>();
    final List<List<Member>> families = new ArrayList<>();
    final List<Row> rows = new ArrayList<>();
    final List<Obj> objects = new ArrayList<>();
    final List<Line> lines = new ArrayList<>();
    final List<Integer> started = new ArrayList<>();
    final Set<Integer> broken = new LinkedHashSet<>();
    final Map<Integer, Integer> keptAs = new HashMap<>();
    final Map<Integer, Integer> loadedAs = new HashMap<>();
    final Map<String, Integer> loadedRows = new HashMap<>();
    final long[] draft = new long[6];
    Thrown cause;
    int byRow;
    int byMake;
    int build;
    int leftOut;

    // ---- types

    int enumeration() {
        if (!objects.isEmpty()) return -2;
        if (enumerations.size() == 4) return -3;
        enumerations.add(new Enumeration());
        return enumerations.size() - 1;
    }

    static boolean isName(long name) {
        String s = "";
        for (int i = 0; i < 8; i++) s += (char) (name >>> 8 * i & 255);
        return s.matches("[a-z]{1,8}\0*");
    }

    static <T> boolean has(List<T> list, long i) {
        return i >= 0 && i < list.size();
    }

    int constant(int e, long name, boolean bodied) {
        if (!has(enumerations, e) || !isName(name)) return -1;
        List<Constant> all = enumerations.get(e).constants;
        if (all.stream().anyMatch(c -> c.name == name)) return -1;
        if (!objects.isEmpty()) return -2;
        if (all.size() == 8) return -3;
        all.add(new Constant(name, bodied));
        return all.size() - 1;
    }

    int exchange(int e, int a, int b) {
        if (!has(enumerations, e)) return -1;
        List<Constant> all = enumerations.get(e).constants;
        if (!has(all, a) || !has(all, b)) return -1;
        if (!objects.isEmpty()) return -2;
        java.util.Collections.swap(all, a, b);
        return 1;
    }

    int forget(int e, int c) {
        if (!has(enumerations, e) || !has(enumerations.get(e).constants, c)) return -1;
        if (!objects.isEmpty()) return -2;
        enumerations.get(e).constants.remove(c);
        return enumerations.get(e).constants.size();
    }

    int fails(int e, boolean is) {
        if (!has(enumerations, e)) return -1;
        if (!objects.isEmpty()) return -2;
        boolean was = enumerations.get(e).fails;
        enumerations.get(e).fails = is;
        return was ? 1 : 0;
    }

    int family() {
        if (!objects.isEmpty()) return -2;
        if (families.size() == 3) return -3;
        families.add(new ArrayList<>());
        return families.size() - 1;
    }

    int permit(int f, boolean isFamily, int member) {
        if (!has(families, f)) return -1;
        if (isFamily ? !(member >= 0 && member < f) : !has(records, member)) return -1;
        if (families.get(f).contains(new Member(isFamily, member))) return -1;
        if (!objects.isEmpty()) return -2;
        if (families.get(f).size() == 4) return -3;
        families.get(f).add(new Member(isFamily, member));
        return families.get(f).size();
    }

    List<Integer> leaves(int f) {
        LinkedHashSet<Integer> all = new LinkedHashSet<>();
        for (Member m : families.get(f)) {
            if (m.isFamily) all.addAll(leaves(m.number));
            else all.add(m.number);
        }
        return new ArrayList<>(all);
    }

    int record() {
        if (!objects.isEmpty()) return -2;
        if (records.size() == 6) return -3;
        records.add(new RecordType());
        return records.size() - 1;
    }

    boolean isSort(int sort, int of) {
        if (sort == 8 || sort == 9) return has(enumerations, of);
        if (sort == 10) return of >= 0 && of <= 7;
        if (sort == 11) return has(families, of);
        return sort >= 0 && sort <= 7;
    }

    static Object number(int sort, long bits) {
        switch (sort) {
            case 0: return bits != 0;
            case 1: return (byte) bits;
            case 2: return (short) bits;
            case 3: return (char) bits;
            case 4: return (int) bits;
            case 5: return bits;
            case 6: return Float.intBitsToFloat((int) bits);
            default: return Double.longBitsToDouble(bits);
        }
    }

    static Object standard(int sort, long bits) {
        if (sort <= 7) return number(sort, bits);
        return sort == 9 ? 0L : null;
    }

    int part(int r, long name, int sort, int of, long standard) {
        if (!has(records, r) || !isName(name) || !isSort(sort, of)) return -1;
        List<Part> all = records.get(r).parts;
        if (all.stream().anyMatch(p -> p.name == name)) return -1;
        if (!objects.isEmpty()) return -2;
        if (all.size() == 6) return -3;
        all.add(new Part(name, sort, of, standard(sort, standard)));
        return all.size() - 1;
    }

    int without(int r, int p) {
        if (!has(records, r) || !has(records.get(r).parts, p)) return -1;
        if (!objects.isEmpty()) return -2;
        Part gone = records.get(r).parts.remove(p);
        records.get(r).checks.removeIf(c -> c.part == gone);
        return records.get(r).parts.size();
    }

    int becomes(int r, int p, int sort, int of) {
        if (!has(records, r) || !has(records.get(r).parts, p) || !isSort(sort, of)) return -1;
        if (!objects.isEmpty()) return -2;
        Part gone = records.get(r).parts.get(p);
        records.get(r).parts.set(p, new Part(gone.name, sort, of, standard(sort, 0)));
        records.get(r).checks.removeIf(c -> c.part == gone);
        return gone.sort;
    }

    static final List<Set<Integer>> CHECKED = List.of(Set.of(0, 1, 2, 3, 4, 5, 6, 7), Set.of(8, 10, 11),
            Set.of(1, 2, 3, 4, 5), Set.of(1, 2, 3, 4), Set.of(10), Set.of(11), Set.of(8));

    int check(int r, int p, int check, long a, long b) {
        if (!has(records, r) || !has(records.get(r).parts, p) || !has(CHECKED, check)) return -1;
        Part part = records.get(r).parts.get(p);
        if (!CHECKED.get(check).contains(part.sort)) return -1;
        if (!objects.isEmpty()) return -2;
        if (records.get(r).checks.size() == 4) return -3;
        records.get(r).checks.add(new Check(part, check, a, b));
        return records.get(r).checks.size();
    }

    int build() {
        if (build == 1000) return -3;
        int were = objects.size();
        objects.clear();
        rows.clear();
        started.clear();
        broken.clear();
        keptAs.clear();
        loadedAs.clear();
        loadedRows.clear();
        byRow = 0;
        byMake = 0;
        build++;
        return were;
    }

    // ---- rows

    int row(int lane, int n) {
        if (lane < 0 || lane > 7 || n > 16) return -1;
        if (byRow == 40) return -3;
        if (n < 0) return -14;
        byRow++;
        Row row = new Row();
        row.lane = lane;
        row.items = new Object[n];
        java.util.Arrays.fill(row.items, number(lane, 0));
        rows.add(row);
        return rows.size() - 1;
    }

    int put(int r, int i, long bits) {
        if (!has(rows, r)) return -1;
        if (i < 0 || i >= rows.get(r).items.length) return -15;
        rows.get(r).items[i] = number(rows.get(r).lane, bits);
        return 1;
    }

    long item(int r, int i) {
        return has(rows, r) && i >= 0 && i < rows.get(r).items.length ? bits(rows.get(r).items[i]) : 0;
    }

    int size(int r) {
        return has(rows, r) ? rows.get(r).items.length : -1;
    }

    static long bits(Object value) {
        if (value == null) return -1;
        if (value instanceof Boolean b) return b ? 1 : 0;
        if (value instanceof Character c) return c;
        if (value instanceof Float f) return Float.floatToIntBits(f);
        if (value instanceof Double d) return Double.doubleToLongBits(d);
        if (value instanceof RowRef r) return r.number;
        if (value instanceof ObjectRef o) return o.number;
        return ((Number) value).longValue();
    }

    // ---- objects

    int give(int k, long bits) {
        if (k < 0 || k > 5) return -1;
        draft[k] = bits;
        return 1;
    }

    boolean fits(Part p, long bits) {
        if (p.sort <= 7) return true;
        if (p.sort == 9) return bits >= 0 && bits < 1L << enumerations.get(p.of).constants.size();
        if (bits == -1) return true;
        if (p.sort == 8) return has(enumerations.get(p.of).constants, bits);
        if (p.sort == 10) return has(rows, bits) && rows.get((int) bits).lane == p.of;
        return has(objects, bits) && leaves(p.of).contains(objects.get((int) bits).record);
    }

    Object fromDraft(Part p, long bits) {
        if (p.sort <= 7) return number(p.sort, bits);
        if (p.sort == 9) return bits;
        if (bits == -1) return null;
        if (p.sort == 8) return (int) bits;
        return p.sort == 10 ? new RowRef((int) bits) : new ObjectRef((int) bits);
    }

    int make(int r) {
        if (!has(records, r)) return -1;
        List<Object> values = new ArrayList<>();
        for (Part p : records.get(r).parts) {
            if (!fits(p, draft[values.size()])) return -1;
            values.add(fromDraft(p, draft[values.size()]));
        }
        if (byMake == 100) return -3;
        try {
            int made = construct(r, values, -1);
            byMake++;
            return made;
        } catch (Failure failure) {
            cause = failure.thrown;
            return -10 - cause.code;
        }
    }

    int start(int e) {
        if (started.contains(10 + e)) return 0;
        if (broken.contains(e)) return 10;
        if (enumerations.get(e).fails) {
            broken.add(e);
            return 9;
        }
        started.add(10 + e);
        return 0;
    }

    int construct(int r, List<Object> values, int line) throws Failure {
        if (!started.contains(r)) started.add(r);
        List<Part> parts = records.get(r).parts;
        for (int p = 0; p < parts.size(); p++) {
            boolean constant = parts.get(p).sort == 8 && values.get(p) != null;
            boolean set = parts.get(p).sort == 9 && (Long) values.get(p) != 0;
            int code = constant || set ? start(parts.get(p).of) : 0;
            if (code != 0) throw new Failure(new Thrown(code, r, p, -1, line));
        }
        int number = 0;
        for (Check check : records.get(r).checks) {
            int p = 0;
            while (parts.get(p) != check.part) p++;
            int code = checked(check, values.get(p));
            if (code != 0) throw new Failure(new Thrown(code, r, p, number, line));
            number++;
        }
        Obj made = new Obj();
        made.record = r;
        made.parts = values;
        objects.add(made);
        return objects.size() - 1;
    }

    int checked(Check c, Object value) {
        switch (c.kind) {
            case 0:
                if (value instanceof Float || value instanceof Double) {
                    double d = ((Number) value).doubleValue();
                    return d >= (double) c.a && d <= (double) c.b ? 0 : 1;
                }
                return bits(value) >= c.a && bits(value) <= c.b ? 0 : 1;
            case 1: return value == null ? 2 : 0;
            case 2:
                try {
                    return c.a / bits(value) == 0 ? 0 : 0;
                } catch (ArithmeticException byZero) {
                    return 3;
                }
            case 3:
                try {
                    return new int[(int) bits(value) % 8].length * 0;
                } catch (NegativeArraySizeException below) {
                    return 4;
                }
            case 4:
                if (value == null) return 2;
                return c.a >= 0 && c.a < rows.get(((RowRef) value).number).items.length ? 0 : 5;
            case 5: return value == null || objects.get(((ObjectRef) value).number).record == c.a ? 0 : 6;
            default:
                return value == null || enumerations.get(c.part.of).constants.get((Integer) value).bodied ? 0 : 7;
        }
    }

    int cause(int what) {
        if (what < 0 || what > 4) return Integer.MIN_VALUE;
        if (cause == null) return what == 0 ? 0 : -1;
        return new int[] {cause.code, cause.record, cause.part, cause.check, cause.line}[what];
    }

    long told(int o, int p) {
        return has(objects, o) && has(objects.get(o).parts, p) ? bits(objects.get(o).parts.get(p)) : Long.MIN_VALUE;
    }

    int of(int o) {
        return has(objects, o) ? objects.get(o).record : -1;
    }

    int tag(int o, int f) {
        return has(objects, o) && has(families, f) ? leaves(f).indexOf(objects.get(o).record) : -1;
    }

    int same(int a, int b) {
        if (!has(objects, a) || !has(objects, b)) return -1;
        return same(a, b, new HashMap<>()) ? 1 : 0;
    }

    boolean same(int a, int b, Map<List<Integer>, Boolean> known) {
        Boolean before = known.get(List.of(a, b));
        if (before != null) return before;
        Obj x = objects.get(a);
        Obj y = objects.get(b);
        boolean same = x.record == y.record;
        for (int p = 0; same && p < x.parts.size(); p++) {
            Object v = x.parts.get(p);
            Object w = y.parts.get(p);
            if (v instanceof ObjectRef s && w instanceof ObjectRef t) same = same(s.number, t.number, known);
            else same = java.util.Objects.equals(v, w);
        }
        known.put(List.of(a, b), same);
        return same;
    }

    // ---- constants

    int named(int e, long name) {
        if (!has(enumerations, e)) return -1;
        int code = start(e);
        if (code != 0) return -10 - code;
        int ordinal = enumerations.get(e).ordinal(name);
        return ordinal < 0 ? -18 : ordinal;
    }

    static int once(Constant c, int ordinal, int n) {
        int plain = n + ordinal;
        return c.bodied ? plain * 3 - 1 : plain;
    }

    long work(int e, int c, int way, int n) {
        if (!has(enumerations, e) || !has(enumerations.get(e).constants, c) || way < 0 || way > 2) return Long.MIN_VALUE;
        int code = start(e);
        if (code != 0) return Long.MIN_VALUE + code;
        Constant it = enumerations.get(e).constants.get(c);
        if (way == 0) return once(it, c, n);
        if (way == 2) return n + c;
        if (it.bodied && c % 2 == 1) return n - once(it, c, n);
        return once(it, c, once(it, c, n));
    }

    int started(int i) {
        return has(started, i) ? started.get(i) : -1;
    }

    // ---- the table

    void needed(int o, Set<Integer> all) {
        if (keptAs.containsKey(o) || all.contains(o)) return;
        for (Object v : objects.get(o).parts) if (v instanceof ObjectRef r) needed(r.number, all);
        all.add(o);
    }

    int keep(int o) {
        if (!has(objects, o)) return -1;
        LinkedHashSet<Integer> all = new LinkedHashSet<>();
        needed(o, all);
        if (lines.size() + all.size() > 64) return -3;
        for (int each : all) keepOne(each);
        return keptAs.get(o);
    }

    void keepOne(int o) {
        Line line = new Line();
        line.record = objects.get(o).record;
        line.build = build;
        int p = 0;
        for (Part part : records.get(line.record).parts) {
            line.parts.put(part.name, new Kept(part, toKeep(part, objects.get(o).parts.get(p++))));
        }
        keptAs.put(o, lines.size());
        lines.add(line);
    }

    Object toKeep(Part part, Object value) {
        if (value == null || part.sort <= 7) return value;
        if (part.sort == 8) return enumerations.get(part.of).constants.get((Integer) value).name;
        if (part.sort == 9) {
            Set<Long> names = new LinkedHashSet<>();
            List<Constant> all = enumerations.get(part.of).constants;
            for (int i = 0; i < all.size(); i++) if (((Long) value >> i & 1) == 1) names.add(all.get(i).name);
            return names;
        }
        if (part.sort == 10) return rows.get(((RowRef) value).number).items.clone();
        return keptAs.get(((ObjectRef) value).number);
    }

    int load(int l) {
        if (!has(lines, l)) return -1;
        try {
            return loadOne(l);
        } catch (Failure failure) {
            cause = failure.thrown;
            return -10 - cause.code;
        }
    }

    int loadOne(int l) throws Failure {
        if (loadedAs.containsKey(l)) return loadedAs.get(l);
        int record = lines.get(l).record;
        List<Object> values = new ArrayList<>();
        for (Part part : records.get(record).parts) values.add(loadPart(l, record, values.size(), part));
        int made = construct(record, values, l);
        loadedAs.put(l, made);
        return made;
    }

    static final Map<Integer, Set<Integer>> GO = Map.of(0, Set.of(0), 1, Set.of(1, 2, 4, 5, 6, 7), 2,
            Set.of(2, 4, 5, 6, 7), 3, Set.of(3, 4, 5, 6, 7), 4, Set.of(4, 5, 6, 7), 5, Set.of(5, 6, 7), 6,
            Set.of(6, 7), 7, Set.of(7));

    static boolean goes(Part from, Part to) {
        if (from.sort <= 7) return GO.get(from.sort).contains(to.sort);
        if (from.sort == 11) return to.sort == 11;
        return (from.sort == to.sort || from.sort == 8 && to.sort == 9) && from.of == to.of;
    }

    @SuppressWarnings("unchecked")
    Object loadPart(int l, int record, int p, Part part) throws Failure {
        Kept kept = lines.get(l).parts.get(part.name);
        if (kept == null) return part.standard;
        if (!goes(kept.part, part)) throw new Failure(new Thrown(6, record, p, -1, l));
        if (part.sort <= 7) return widen(kept.value, part.sort);
        if (part.sort == 9) {
            Set<Long> names = kept.value == null ? Set.of()
                    : kept.part.sort == 8 ? Set.of((Long) kept.value) : (Set<Long>) kept.value;
            long sum = 0;
            for (long name : names) {
                int ordinal = enumerations.get(part.of).ordinal(name);
                if (ordinal < 0) leftOut++;
                else sum += 1L << ordinal;
            }
            return sum;
        }
        if (kept.value == null) return null;
        if (part.sort == 8) {
            int ordinal = enumerations.get(part.of).ordinal((Long) kept.value);
            if (ordinal < 0) throw new Failure(new Thrown(8, record, p, -1, l));
            return ordinal;
        }
        if (part.sort == 10) return loadRow(l + " " + part.name, part.of, (Object[]) kept.value);
        int object = loadOne((Integer) kept.value);
        if (!leaves(part.of).contains(objects.get(object).record)) throw new Failure(new Thrown(6, record, p, -1, l));
        return new ObjectRef(object);
    }

    RowRef loadRow(String which, int lane, Object[] items) {
        if (!loadedRows.containsKey(which)) {
            Row row = new Row();
            row.lane = lane;
            row.items = items.clone();
            rows.add(row);
            loadedRows.put(which, rows.size() - 1);
        }
        return new RowRef(loadedRows.get(which));
    }

    static Object widen(Object value, int sort) {
        if (value instanceof Boolean) return value;
        if (value instanceof Character c && sort == 3) return c;
        if (value instanceof Float f) return sort == 6 ? (Object) f : (Object) (double) (float) f;
        if (value instanceof Double) return value;
        long whole = bits(value);
        switch (sort) {
            case 1: return (byte) whole;
            case 2: return (short) whole;
            case 4: return (int) whole;
            case 5: return whole;
            case 6: return value instanceof Long ? (float) whole : (float) (int) whole;
            default: return value instanceof Long ? (double) whole : (double) (int) whole;
        }
    }

    int line(int l, int what) {
        if (!has(lines, l)) return -1;
        if (what == 0) return lines.get(l).record;
        if (what == 1) return lines.get(l).build;
        if (what == 2) return lines.get(l).parts.size();
        return what == 3 ? loadedAs.getOrDefault(l, -1) : -1;
    }

    @SuppressWarnings("unchecked")
    Set<Long> names(int l, long part, int enumeration) {
        Kept kept = lines.get(l).parts.get(part);
        if (kept == null || kept.value == null || kept.part.sort != 8 && kept.part.sort != 9) return Set.of();
        if (enumeration >= 0 && kept.part.of != enumeration) return Set.of();
        return kept.part.sort == 8 ? Set.of((Long) kept.value) : (Set<Long>) kept.value;
    }

    static int pick(List<Integer> found, int i) {
        if (i == -1) return found.size();
        return has(found, i) ? found.get(i) : -1;
    }

    int word(long part, long name, int i) {
        List<Integer> found = new ArrayList<>();
        for (int l = 0; l < lines.size(); l++) if (names(l, part, -1).contains(name)) found.add(l);
        return pick(found, i);
    }

    int range(long part, int e, int low, int high, int i) {
        if (!has(enumerations, e)) return -1;
        List<Integer> found = new ArrayList<>();
        for (int l = 0; l < lines.size(); l++) {
            boolean in = false;
            for (long name : names(l, part, e)) {
                int ordinal = enumerations.get(e).ordinal(name);
                in |= ordinal >= 0 && ordinal >= low && ordinal <= high;
            }
            if (in) found.add(l);
        }
        return pick(found, i);
    }

    int count(int what) {
        int[] all = {enumerations.size(), records.size(), families.size(), rows.size(), objects.size(), lines.size(),
            build, leftOut};
        return what >= 0 && what < all.length ? all[what] : -1;
    }

    int about(int type, int what) {
        if (what == 0) return has(enumerations, type) ? enumerations.get(type).constants.size() : -1;
        if (what == 1) return has(records, type) ? records.get(type).parts.size() : -1;
        if (what == 2) return has(records, type) ? records.get(type).checks.size() : -1;
        if (what == 3) return has(families, type) ? families.get(type).size() : -1;
        return what == 4 && has(families, type) ? leaves(type).size() : -1;
    }
}
