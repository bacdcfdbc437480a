import java.util.ArrayList;
import java.util.Arrays;

/**
 * Enumerations, records and sealed families, the objects made of them, and a table in which objects
 * outlive the build that made them. The promises are in shared/DOC.md.
 */
public final class FamilyFields {
    public static final int NONE = -1, BAD = -1, STATE = -2, FULL = -3;

    private static final int MOST_ENUMERATIONS = 4, MOST_CONSTANTS = 8;
    private static final int MOST_RECORDS = 6, MOST_PARTS = 6, MOST_CHECKS = 4;
    private static final int MOST_FAMILIES = 3, MOST_MEMBERS = 4;
    private static final int MOST_ITEMS = 16, MOST_ROWS = 40, MOST_MADE = 100;
    private static final int MOST_LINES = 64, LAST_BUILD = 1000;

    private static final int BYTE = 1, SHORT = 2, CHAR = 3, INT = 4, FLOAT = 6, DOUBLE = 7;
    private static final int FLAG = 0, CONSTANT = 8, SET = 9, ROW = 10, OBJECT = 11;
    private static final int LAST_NUMBER = 7, LAST_SORT = 11, LAST_LANE = 7;

    private static final int BETWEEN = 0, PRESENT = 1, DIVIDES = 2, SIZE = 3, ITEM = 4, OF_RECORD = 5, LAID = 6;
    /** By check: the sorts that it is for, as a sum of 2^sort. */
    private static final int[] CHECKED_SORTS = {0x0ff, 0xd00, 0x03e, 0x01e, 0x400, 0x800, 0x100};

    /** By the sort that was kept: the other sorts of numbers that it goes to, as a sum of 2^sort. */
    private static final int[] WIDER_SORTS = {0, 0xf4, 0xf0, 0xf0, 0xe0, 0xc0, 0x80, 0, 0, 0, 0, 0};

    private static final long[] NOTHING = {};

    private static final int ARGUMENT = 1, NULL = 2, ZERO = 3, SIZE_BELOW = 4, INDEX = 5;
    private static final int CAST = 6, STORE = 7, UNKNOWN = 8, INIT = 9, NOT = 10;

    /** An enumeration among those who started; a record is its plain number. */
    private static final int STARTED_ENUMERATION = 10;
    /** A family among members; a record is its plain number. */
    private static final int MEMBER_FAMILY = 10;

    private final ArrayList<Enumeration> enumerations = new ArrayList<>();
    private final ArrayList<RecordType> records = new ArrayList<>();
    private final ArrayList<Family> families = new ArrayList<>();

    // Rows and objects of earlier builds stay in their lists to be used again: only the first ones count.
    private final ArrayList<Row> rows = new ArrayList<>();
    private int rowCount;
    private int rowsByCall;
    private final ArrayList<Made> objects = new ArrayList<>();
    private int objectCount;
    private int madeByCall;
    /** How many objects, the oldest ones, have had their twins found. */
    private int twinCount;

    private final int[] startOrder = new int[MOST_ENUMERATIONS + MOST_RECORDS];
    private int startCount;

    private final long[] draft = new long[MOST_PARTS];
    private final long[] shapedDraft = new long[MOST_PARTS];
    /** In the order in which cause() is asked: code, record, part, check, line. */
    private final int[] causes = {0, NONE, NONE, NONE, NONE};

    private final ArrayList<Line> lines = new ArrayList<>();
    /** What is being kept or loaded, each for the sake of the one before it. */
    private final int[] open = new int[MOST_LINES];
    private int buildNumber;
    private int leftOut;

    public FamilyFields() {
    }

    // ---- types

    public int enumeration() {
        if (objectCount > 0) return STATE;
        if (enumerations.size() >= MOST_ENUMERATIONS) return FULL;
        enumerations.add(new Enumeration());
        return enumerations.size() - 1;
    }

    public int constant(int enumeration, long name, boolean bodied) {
        Enumeration type = enumerationAt(enumeration);
        if (type == null || !Bits.isName(name) || type.ordinalOf(name) != NONE) return BAD;
        if (objectCount > 0) return STATE;
        if (type.constants.size() >= MOST_CONSTANTS) return FULL;
        type.constants.add(new Constant(name, bodied));
        return type.constants.size() - 1;
    }

    public int exchange(int enumeration, int a, int b) {
        Enumeration type = enumerationAt(enumeration);
        if (type == null) return BAD;
        Constant first = type.constantAt(a);
        Constant second = type.constantAt(b);
        if (first == null || second == null) return BAD;
        if (objectCount > 0) return STATE;
        type.constants.set(a, second);
        type.constants.set(b, first);
        return 1;
    }

    public int forget(int enumeration, int constant) {
        Enumeration type = enumerationAt(enumeration);
        if (type == null || type.constantAt(constant) == null) return BAD;
        if (objectCount > 0) return STATE;
        type.constants.remove(constant);
        return type.constants.size();
    }

    public int fails(int enumeration, boolean is) {
        Enumeration type = enumerationAt(enumeration);
        if (type == null) return BAD;
        if (objectCount > 0) return STATE;
        int before = type.failing ? 1 : 0;
        type.failing = is;
        return before;
    }

    public int family() {
        if (objectCount > 0) return STATE;
        if (families.size() >= MOST_FAMILIES) return FULL;
        families.add(new Family());
        return families.size() - 1;
    }

    public int permit(int family, boolean isFamily, int member) {
        Family type = familyAt(family);
        if (type == null || member < 0 || member >= (isFamily ? family : records.size())) return BAD;
        int coded = isFamily ? MEMBER_FAMILY + member : member;
        if (type.hasMember(coded)) return BAD;
        if (objectCount > 0) return STATE;
        if (type.memberCount >= MOST_MEMBERS) return FULL;
        type.members[type.memberCount++] = coded;
        gatherLeaves();
        return type.memberCount;
    }

    public int record() {
        if (objectCount > 0) return STATE;
        if (records.size() >= MOST_RECORDS) return FULL;
        records.add(new RecordType());
        return records.size() - 1;
    }

    public int part(int record, long name, int sort, int of, long standard) {
        RecordType type = recordAt(record);
        if (type == null || !Bits.isName(name) || type.hasPart(name) || !isSort(sort, of)) return BAD;
        if (objectCount > 0) return STATE;
        if (type.parts.size() >= MOST_PARTS) return FULL;
        type.parts.add(new Part(name, sort, of, standard));
        return type.parts.size() - 1;
    }

    public int without(int record, int part) {
        RecordType type = recordAt(record);
        if (type == null || type.partAt(part) == null) return BAD;
        if (objectCount > 0) return STATE;
        type.dropChecks(part);
        type.parts.remove(part);
        type.moveChecks(part);
        return type.parts.size();
    }

    public int becomes(int record, int part, int sort, int of) {
        RecordType type = recordAt(record);
        if (type == null) return BAD;
        Part old = type.partAt(part);
        if (old == null || !isSort(sort, of)) return BAD;
        if (objectCount > 0) return STATE;
        type.dropChecks(part);
        type.parts.set(part, new Part(old.name, sort, of, 0));
        return old.sort;
    }

    public int check(int record, int part, int check, long a, long b) {
        RecordType type = recordAt(record);
        if (type == null || check < 0 || check >= CHECKED_SORTS.length) return BAD;
        Part checked = type.partAt(part);
        if (checked == null || (CHECKED_SORTS[check] >> checked.sort & 1) == 0) return BAD;
        if (objectCount > 0) return STATE;
        if (type.checks.size() >= MOST_CHECKS) return FULL;
        type.checks.add(new Check(part, check, a, b));
        return type.checks.size();
    }

    public int build() {
        if (buildNumber >= LAST_BUILD) return FULL;
        int before = objectCount;
        objectCount = 0;
        madeByCall = 0;
        twinCount = 0;
        rowCount = 0;
        rowsByCall = 0;
        startCount = 0;
        for (int i = 0; i < enumerations.size(); i++) enumerations.get(i).rest();
        for (int i = 0; i < records.size(); i++) records.get(i).started = false;
        for (int i = 0; i < lines.size(); i++) lines.get(i).unload();
        buildNumber++;
        return before;
    }

    // ---- rows

    public int row(int lane, int n) {
        if (lane < 0 || lane > LAST_LANE || n > MOST_ITEMS) return BAD;
        if (rowsByCall >= MOST_ROWS) return FULL;
        if (n < 0) return answerOf(SIZE_BELOW);
        rowsByCall++;
        return addRow(lane, n);
    }

    public int put(int row, int i, long bits) {
        Row it = rowAt(row);
        if (it == null) return BAD;
        if (!it.hasItem(i)) return answerOf(INDEX);
        it.items[i] = Bits.shaped(it.lane, bits);
        return 1;
    }

    public long item(int row, int i) {
        Row it = rowAt(row);
        return it != null && it.hasItem(i) ? it.items[i] : 0;
    }

    public int size(int row) {
        Row it = rowAt(row);
        return it == null ? BAD : it.itemCount;
    }

    // ---- objects

    public int give(int k, long bits) {
        if (k < 0 || k >= MOST_PARTS) return BAD;
        draft[k] = bits;
        return 1;
    }

    public int make(int record) {
        RecordType type = recordAt(record);
        if (type == null || !draftFits(type)) return BAD;
        if (madeByCall >= MOST_MADE) return FULL;
        for (int p = 0; p < type.parts.size(); p++) {
            shapedDraft[p] = Bits.shaped(type.parts.get(p).sort, draft[p]);
        }
        int answer = construct(record, shapedDraft, NONE);
        if (answer >= 0) madeByCall++;
        return answer;
    }

    public int cause(int what) {
        return what >= 0 && what < causes.length ? causes[what] : Integer.MIN_VALUE;
    }

    public long told(int object, int part) {
        Made it = objectAt(object);
        if (it == null) return Long.MIN_VALUE;
        RecordType type = recordAt(it.record);
        return type != null && type.partAt(part) != null ? it.values[part] : Long.MIN_VALUE;
    }

    public int of(int object) {
        Made it = objectAt(object);
        return it == null ? BAD : it.record;
    }

    public int tag(int object, int family) {
        Made it = objectAt(object);
        Family type = familyAt(family);
        return it == null || type == null ? BAD : type.tagOf(it.record);
    }

    public int same(int a, int b) {
        Made first = objectAt(a);
        Made second = objectAt(b);
        if (first == null || second == null) return BAD;
        findTwins();
        return first.twin == second.twin ? 1 : 0;
    }

    // ---- constants

    public int named(int enumeration, long name) {
        Enumeration type = enumerationAt(enumeration);
        if (type == null) return BAD;
        int code = startEnumeration(enumeration);
        if (code != 0) return answerOf(code);
        int ordinal = type.ordinalOf(name);
        return ordinal == NONE ? answerOf(UNKNOWN) : ordinal;
    }

    public long work(int enumeration, int constant, int way, int n) {
        Enumeration type = enumerationAt(enumeration);
        if (type == null || way < 0 || way > 2) return Long.MIN_VALUE;
        Constant it = type.constantAt(constant);
        if (it == null) return Long.MIN_VALUE;
        int code = startEnumeration(enumeration);
        if (code != 0) return Long.MIN_VALUE + code;
        if (way == 0) return it.once(constant, n);
        return way == 1 ? it.twice(constant, n) : n + constant;
    }

    public int started(int i) {
        return i >= 0 && i < startCount ? startOrder[i] : NONE;
    }

    // ---- the table

    public int keep(int object) {
        Made it = objectAt(object);
        if (it == null) return BAD;
        if (lines.size() + countToKeep(object) > MOST_LINES) return FULL;
        if (it.line == NONE) keepInOrder(object);
        return it.line;
    }

    public int load(int line) {
        Line it = lineAt(line);
        if (it == null) return BAD;
        return it.loaded != NONE ? it.loaded : loadInOrder(line);
    }

    public int line(int line, int what) {
        Line it = lineAt(line);
        if (it == null) return BAD;
        switch (what) {
            case 0: return it.record;
            case 1: return it.build;
            case 2: return it.parts.length;
            case 3: return it.loaded;
            default: return BAD;
        }
    }

    public int word(long part, long name, int i) {
        for (int k = 0; k < lines.size(); k++) {
            KeptPart kept = lines.get(k).keptAs(part);
            lines.get(k).found = kept != null && kept.hasWord(name);
        }
        return foundLine(i);
    }

    public int range(long part, int enumeration, int low, int high, int i) {
        Enumeration type = enumerationAt(enumeration);
        if (type == null) return NONE;
        for (int k = 0; k < lines.size(); k++) {
            KeptPart kept = lines.get(k).keptAs(part);
            lines.get(k).found = kept != null && kept.of == enumeration && kept.hasOrdinal(type, low, high);
        }
        return foundLine(i);
    }

    public int count(int what) {
        switch (what) {
            case 0: return enumerations.size();
            case 1: return records.size();
            case 2: return families.size();
            case 3: return rowCount;
            case 4: return objectCount;
            case 5: return lines.size();
            case 6: return buildNumber;
            case 7: return leftOut;
            default: return BAD;
        }
    }

    public int about(int type, int what) {
        if (what == 0) {
            Enumeration it = enumerationAt(type);
            return it == null ? BAD : it.constants.size();
        }
        if (what == 1 || what == 2) {
            RecordType it = recordAt(type);
            if (it == null) return BAD;
            return what == 1 ? it.parts.size() : it.checks.size();
        }
        Family it = what == 3 || what == 4 ? familyAt(type) : null;
        if (it == null) return BAD;
        return what == 3 ? it.memberCount : it.leafCount;
    }

    // ---- what there is, or null

    private Enumeration enumerationAt(int i) {
        return i >= 0 && i < enumerations.size() ? enumerations.get(i) : null;
    }

    private RecordType recordAt(int i) {
        return i >= 0 && i < records.size() ? records.get(i) : null;
    }

    private Family familyAt(int i) {
        return i >= 0 && i < families.size() ? families.get(i) : null;
    }

    private Row rowAt(long i) {
        return i >= 0 && i < rowCount ? rows.get((int) i) : null;
    }

    private Made objectAt(long i) {
        return i >= 0 && i < objectCount ? objects.get((int) i) : null;
    }

    private Line lineAt(long i) {
        return i >= 0 && i < lines.size() ? lines.get((int) i) : null;
    }

    private static int answerOf(int code) {
        return -10 - code;
    }

    // ---- types, inside

    private boolean isSort(int sort, int of) {
        if (sort < 0 || sort > LAST_SORT) return false;
        switch (sort) {
            case CONSTANT:
            case SET: return enumerationAt(of) != null;
            case ROW: return of >= 0 && of <= LAST_LANE;
            case OBJECT: return familyAt(of) != null;
            default: return true;
        }
    }

    /** A family's leaves hang on those of lesser numbers, so all are gathered anew, the least first. */
    private void gatherLeaves() {
        for (int f = 0; f < families.size(); f++) {
            Family family = families.get(f);
            family.leafCount = 0;
            for (int m = 0; m < family.memberCount; m++) {
                int member = family.members[m];
                if (member >= MEMBER_FAMILY) family.addLeavesOf(familyAt(member - MEMBER_FAMILY));
                else family.addLeaf(member);
            }
        }
    }

    // ---- starts

    private void startRecord(int record, RecordType type) {
        if (type.started) return;
        type.started = true;
        noteStart(record);
    }

    /** Answers the code of what is thrown, or 0. */
    private int startEnumeration(int enumeration) {
        Enumeration type = enumerationAt(enumeration);
        if (type == null || type.started) return 0;
        if (type.broken) return NOT;
        if (type.failing) {
            type.broken = true;
            return INIT;
        }
        type.started = true;
        noteStart(STARTED_ENUMERATION + enumeration);
        return 0;
    }

    private void noteStart(int who) {
        if (startCount < startOrder.length) startOrder[startCount++] = who;
    }

    /** A part without a constant does not touch its enumeration. */
    private int startFor(Part part, long bits) {
        boolean touches = part.sort == CONSTANT && bits != NONE || part.sort == SET && bits != 0;
        return touches ? startEnumeration(part.of) : 0;
    }

    // ---- rows and objects, inside

    private int addRow(int lane, int n) {
        if (rowCount == rows.size()) rows.add(new Row());
        rows.get(rowCount).reuse(lane, n);
        return rowCount++;
    }

    private boolean draftFits(RecordType type) {
        for (int p = 0; p < type.parts.size(); p++) {
            if (!fits(type.parts.get(p), draft[p])) return false;
        }
        return true;
    }

    private boolean fits(Part part, long bits) {
        if (part.sort == SET) return enumerationHolds(part.of, bits);
        if (part.sort < CONSTANT || bits == NONE) return true;
        if (part.sort == CONSTANT) return isOrdinal(part.of, bits);
        if (part.sort == ROW) {
            Row row = rowAt(bits);
            return row != null && row.lane == part.of;
        }
        Made made = objectAt(bits);
        return made != null && isOfFamily(made, part.of);
    }

    private boolean isOrdinal(int enumeration, long bits) {
        Enumeration type = enumerationAt(enumeration);
        return type != null && bits >= 0 && bits < type.constants.size();
    }

    private boolean enumerationHolds(int enumeration, long set) {
        Enumeration type = enumerationAt(enumeration);
        return type != null && set >>> type.constants.size() == 0;
    }

    private boolean isOfFamily(Made made, int family) {
        Family type = familyAt(family);
        return type != null && type.tagOf(made.record) != NONE;
    }

    /** Makes an object of values that fit its parts; line is the one that is loaded, or NONE. */
    private int construct(int record, long[] values, int line) {
        RecordType type = recordAt(record);
        if (type == null) return BAD;
        startRecord(record, type);
        for (int p = 0; p < type.parts.size(); p++) {
            int code = startFor(type.parts.get(p), values[p]);
            if (code != 0) return failed(code, record, p, NONE, line);
        }
        for (int c = 0; c < type.checks.size(); c++) {
            Check check = type.checks.get(c);
            Part part = type.partAt(check.part);
            int code = part == null ? 0 : thrownBy(check, part, values[check.part]);
            if (code != 0) return failed(code, record, check.part, c, line);
        }
        return addObject(record, values);
    }

    private int failed(int code, int record, int part, int check, int line) {
        causes[0] = code;
        causes[1] = record;
        causes[2] = part;
        causes[3] = check;
        causes[4] = line;
        return answerOf(code);
    }

    private int thrownBy(Check check, Part part, long bits) {
        switch (check.kind) {
            case BETWEEN: return Bits.isBetween(part.sort, bits, check.a, check.b) ? 0 : ARGUMENT;
            case PRESENT: return bits == NONE ? NULL : 0;
            case DIVIDES: return bits == 0 ? ZERO : 0;
            case SIZE: return bits % 8 < 0 ? SIZE_BELOW : 0;
            case ITEM: return thrownByItem(rowAt(bits), check.a);
            case OF_RECORD: return thrownByCast(objectAt(bits), check.a);
            case LAID: return thrownByLaying(part.of, bits);
            default: return 0;
        }
    }

    private static int thrownByItem(Row row, long i) {
        if (row == null) return NULL;
        return row.hasItem(i) ? 0 : INDEX;
    }

    private static int thrownByCast(Made made, long record) {
        return made == null || made.record == record ? 0 : CAST;
    }

    private int thrownByLaying(int enumeration, long ordinal) {
        Enumeration type = enumerationAt(enumeration);
        Constant constant = type == null ? null : type.constantAt(ordinal);
        return constant == null || constant.bodied ? 0 : STORE;
    }

    private int addObject(int record, long[] values) {
        if (objectCount == objects.size()) objects.add(new Made());
        Made made = objects.get(objectCount);
        made.record = record;
        made.line = NONE;
        System.arraycopy(values, 0, made.values, 0, MOST_PARTS);
        return objectCount++;
    }

    /**
     * Objects never change, and their parts are older than they: with twins found from the oldest on,
     * no walk into the parts of parts is needed, nor the same one twice.
     */
    private void findTwins() {
        for (int i = twinCount; i < objectCount; i++) objects.get(i).twin = firstAlike(i);
        twinCount = objectCount;
    }

    private int firstAlike(int object) {
        Made made = objects.get(object);
        for (int i = 0; i < object; i++) {
            Made other = objects.get(i);
            if (other.record == made.record && areAlike(other, made)) return i;
        }
        return object;
    }

    private boolean areAlike(Made a, Made b) {
        RecordType type = recordAt(a.record);
        if (type == null) return false;
        for (int p = 0; p < type.parts.size(); p++) {
            boolean isObject = type.parts.get(p).sort == OBJECT;
            long first = isObject ? twinOf(a.values[p]) : a.values[p];
            long second = isObject ? twinOf(b.values[p]) : b.values[p];
            if (first != second) return false;
        }
        return true;
    }

    private long twinOf(long object) {
        Made made = objectAt(object);
        return made == null ? NONE : made.twin;
    }

    // ---- keeping

    /** An object's parts are older than it, so one pass from it downwards meets all that it needs. */
    private int countToKeep(int object) {
        for (int i = 0; i <= object; i++) objects.get(i).wanted = i == object;
        int needed = 0;
        for (int i = object; i >= 0; i--) {
            Made made = objects.get(i);
            if (!made.wanted || made.line != NONE) continue;
            needed++;
            wantParts(made);
        }
        return needed;
    }

    private void wantParts(Made made) {
        RecordType type = recordAt(made.record);
        if (type == null) return;
        for (int p = 0; p < type.parts.size(); p++) {
            Made part = type.parts.get(p).sort == OBJECT ? objectAt(made.values[p]) : null;
            if (part != null) part.wanted = true;
        }
    }

    private void keepInOrder(int object) {
        int depth = 1;
        open[0] = object;
        for (int step = 0; step < 2 * MOST_LINES && depth > 0; step++) {
            Made made = objects.get(open[depth - 1]);
            int ahead = firstPartToKeep(made);
            if (ahead == NONE) {
                addLine(made);
                depth--;
            } else if (depth < open.length) {
                open[depth++] = ahead;
            }
        }
    }

    private int firstPartToKeep(Made made) {
        RecordType type = recordAt(made.record);
        if (type == null) return NONE;
        for (int p = 0; p < type.parts.size(); p++) {
            Made part = type.parts.get(p).sort == OBJECT ? objectAt(made.values[p]) : null;
            if (part != null && part.line == NONE) return (int) made.values[p];
        }
        return NONE;
    }

    private void addLine(Made made) {
        RecordType type = recordAt(made.record);
        if (type == null || lines.size() >= MOST_LINES) return;
        KeptPart[] parts = new KeptPart[type.parts.size()];
        for (int p = 0; p < parts.length; p++) parts[p] = keptPart(type.parts.get(p), made.values[p]);
        made.line = lines.size();
        lines.add(new Line(made.record, buildNumber, parts));
    }

    private KeptPart keptPart(Part part, long bits) {
        switch (part.sort) {
            case CONSTANT: return new KeptPart(part, 0, namesOf(part.of, bits == NONE ? 0 : 1L << bits));
            case SET: return new KeptPart(part, 0, namesOf(part.of, bits));
            case ROW: return keptRow(part, rowAt(bits));
            case OBJECT: return new KeptPart(part, lineOf(objectAt(bits)), NOTHING);
            default: return new KeptPart(part, bits, NOTHING);
        }
    }

    private static KeptPart keptRow(Part part, Row row) {
        if (row == null) return new KeptPart(part, NONE, NOTHING);
        return new KeptPart(part, 0, Arrays.copyOf(row.items, row.itemCount));
    }

    private static int lineOf(Made made) {
        return made == null ? NONE : made.line;
    }

    private long[] namesOf(int enumeration, long set) {
        Enumeration type = enumerationAt(enumeration);
        long[] names = new long[Long.bitCount(set)];
        int n = 0;
        for (int i = 0; type != null && i < type.constants.size(); i++) {
            if ((set >> i & 1) != 0 && n < names.length) names[n++] = type.constants.get(i).name;
        }
        return names;
    }

    // ---- loading

    private int loadInOrder(int first) {
        int depth = 1;
        open[0] = first;
        lines.get(first).filled = 0;
        // Each line is opened once, filled part by part, and closed once.
        int steps = MOST_LINES * (MOST_PARTS + 2);
        for (int step = 0; step < steps && depth > 0; step++) {
            int number = open[depth - 1];
            Line line = lines.get(number);
            RecordType type = recordAt(line.record);
            Part part = type == null ? null : type.partAt(line.filled);
            int ahead = part == null ? NONE : lineAhead(line, part);
            if (ahead != NONE && depth < open.length) {
                lines.get(ahead).filled = 0;
                open[depth++] = ahead;
                continue;
            }
            int answer = part == null ? construct(line.record, line.values, number) : fillPart(number, line, part);
            if (answer < 0) return answer;
            if (part == null) {
                line.loaded = answer;
                depth--;
            }
        }
        return lines.get(first).loaded;
    }

    /** The line that is to be loaded before a part can be filled, or NONE. */
    private int lineAhead(Line line, Part part) {
        KeptPart kept = line.keptAs(part.name);
        if (kept == null || kept.sort != OBJECT || part.sort != OBJECT) return NONE;
        Line ahead = lineAt(kept.bits);
        return ahead == null || ahead.loaded != NONE ? NONE : (int) kept.bits;
    }

    private int fillPart(int number, Line line, Part part) {
        int at = line.filled;
        KeptPart kept = line.keptAs(part.name);
        int code = 0;
        if (kept == null) line.values[at] = part.standard;
        else if (!kept.goesTo(part)) code = CAST;
        else {
            line.values[at] = valueNow(kept, part);
            code = thrownByFilling(kept, part, line.values[at]);
        }
        if (code != 0) return failed(code, line.record, at, NONE, number);
        line.filled++;
        return 0;
    }

    private long valueNow(KeptPart kept, Part part) {
        switch (part.sort) {
            case CONSTANT: return ordinalNow(kept, part.of);
            case SET: return setNow(kept, part.of);
            case ROW: return rowNow(kept);
            case OBJECT: return objectNow(kept);
            default: return Bits.widened(kept.sort, part.sort, kept.bits);
        }
    }

    private int thrownByFilling(KeptPart kept, Part part, long value) {
        if (part.sort == CONSTANT) return kept.held.length > 0 && value == NONE ? UNKNOWN : 0;
        if (part.sort != OBJECT) return 0;
        Made made = objectAt(value);
        return made == null || isOfFamily(made, part.of) ? 0 : CAST;
    }

    private long ordinalNow(KeptPart kept, int enumeration) {
        Enumeration type = enumerationAt(enumeration);
        return type == null || kept.held.length == 0 ? NONE : type.ordinalOf(kept.held[0]);
    }

    private long setNow(KeptPart kept, int enumeration) {
        Enumeration type = enumerationAt(enumeration);
        long set = 0;
        for (int i = 0; type != null && i < kept.held.length; i++) {
            int ordinal = type.ordinalOf(kept.held[i]);
            if (ordinal == NONE) leftOut++;
            else set |= 1L << ordinal;
        }
        return set;
    }

    private long rowNow(KeptPart kept) {
        if (kept.bits == NONE) return NONE;
        if (kept.loadedRow == NONE) {
            kept.loadedRow = addRow(kept.of, kept.held.length);
            System.arraycopy(kept.held, 0, rows.get(kept.loadedRow).items, 0, kept.held.length);
        }
        return kept.loadedRow;
    }

    private long objectNow(KeptPart kept) {
        Line line = lineAt(kept.bits);
        return line == null ? NONE : line.loaded;
    }

    // ---- looking lines up

    /** Among the lines marked as found: the i-th, or with -1 how many. */
    private int foundLine(int i) {
        int before = 0;
        for (int k = 0; k < lines.size(); k++) {
            if (!lines.get(k).found) continue;
            if (before == i) return k;
            before++;
        }
        return i == -1 ? before : NONE;
    }

    // ---- the classes inside

    static final class Constant {
        final long name;
        final boolean bodied;

        Constant(long name, boolean bodied) {
            this.name = name;
            this.bodied = bodied;
        }

        int once(int ordinal, int n) {
            return bodied ? (n + ordinal) * 3 - 1 : n + ordinal;
        }

        int twice(int ordinal, int n) {
            int first = once(ordinal, n);
            return bodied && ordinal % 2 != 0 ? n - first : once(ordinal, first);
        }
    }

    static final class Enumeration {
        final ArrayList<Constant> constants = new ArrayList<>();
        boolean failing;
        boolean started;
        boolean broken;

        Constant constantAt(long ordinal) {
            return ordinal >= 0 && ordinal < constants.size() ? constants.get((int) ordinal) : null;
        }

        int ordinalOf(long name) {
            for (int i = 0; i < constants.size(); i++) {
                if (constants.get(i).name == name) return i;
            }
            return NONE;
        }

        void rest() {
            started = false;
            broken = false;
        }
    }

    static final class Part {
        final long name;
        final int sort;
        final int of;
        final long standard;

        Part(long name, int sort, int of, long standard) {
            this.name = name;
            this.sort = sort;
            this.of = of;
            this.standard = sort <= LAST_NUMBER ? Bits.shaped(sort, standard) : sort == SET ? 0 : NONE;
        }
    }

    static final class Check {
        int part;
        final int kind;
        final long a;
        final long b;

        Check(int part, int kind, long a, long b) {
            this.part = part;
            this.kind = kind;
            this.a = a;
            this.b = b;
        }
    }

    static final class RecordType {
        final ArrayList<Part> parts = new ArrayList<>();
        final ArrayList<Check> checks = new ArrayList<>();
        boolean started;

        Part partAt(int i) {
            return i >= 0 && i < parts.size() ? parts.get(i) : null;
        }

        boolean hasPart(long name) {
            for (int i = 0; i < parts.size(); i++) {
                if (parts.get(i).name == name) return true;
            }
            return false;
        }

        void dropChecks(int part) {
            for (int i = checks.size() - 1; i >= 0; i--) {
                if (checks.get(i).part == part) checks.remove(i);
            }
        }

        /** The parts behind one that went have lesser numbers now. */
        void moveChecks(int gone) {
            for (int i = 0; i < checks.size(); i++) {
                if (checks.get(i).part > gone) checks.get(i).part--;
            }
        }
    }

    static final class Family {
        final int[] members = new int[MOST_MEMBERS];
        int memberCount;
        final int[] leaves = new int[MOST_RECORDS];
        int leafCount;

        boolean hasMember(int coded) {
            for (int i = 0; i < memberCount; i++) {
                if (members[i] == coded) return true;
            }
            return false;
        }

        int tagOf(int record) {
            for (int i = 0; i < leafCount; i++) {
                if (leaves[i] == record) return i;
            }
            return NONE;
        }

        void addLeaf(int record) {
            if (tagOf(record) == NONE && leafCount < leaves.length) leaves[leafCount++] = record;
        }

        void addLeavesOf(Family lesser) {
            for (int i = 0; lesser != null && i < lesser.leafCount; i++) addLeaf(lesser.leaves[i]);
        }
    }

    static final class Row {
        int lane;
        int itemCount;
        final long[] items = new long[MOST_ITEMS];

        void reuse(int lane, int itemCount) {
            this.lane = lane;
            this.itemCount = itemCount;
            Arrays.fill(items, 0);
        }

        boolean hasItem(long i) {
            return i >= 0 && i < itemCount;
        }
    }

    /** An object of a record. */
    static final class Made {
        int record;
        final long[] values = new long[MOST_PARTS];
        /** The first object that is the same: itself, if there is none before it. */
        int twin;
        int line;
        boolean wanted;
    }

    static final class KeptPart {
        final long name;
        final int sort;
        final int of;
        /** Of numbers what it is, of an object its line; of a row only whether it is none. */
        final long bits;
        /** The names of constants, or the items of a row; nothing of others. */
        final long[] held;
        int loadedRow = NONE;

        KeptPart(Part part, long bits, long[] held) {
            this.name = part.name;
            this.sort = part.sort;
            this.of = part.of;
            this.bits = bits;
            this.held = held;
        }

        boolean hasNames() {
            return sort == CONSTANT || sort == SET;
        }

        boolean hasWord(long word) {
            for (int i = 0; hasNames() && i < held.length; i++) {
                if (held[i] == word) return true;
            }
            return false;
        }

        boolean hasOrdinal(Enumeration type, int low, int high) {
            for (int i = 0; hasNames() && i < held.length; i++) {
                int ordinal = type.ordinalOf(held[i]);
                if (ordinal != NONE && ordinal >= low && ordinal <= high) return true;
            }
            return false;
        }

        boolean goesTo(Part part) {
            boolean alike = sort == part.sort || sort == CONSTANT && part.sort == SET;
            if (!alike) return (WIDER_SORTS[sort] >> part.sort & 1) != 0;
            return sort < CONSTANT || sort == OBJECT || of == part.of;
        }
    }

    static final class Line {
        final int record;
        final int build;
        final KeptPart[] parts;
        /** What the parts of the object to come are, as far as they are filled. */
        final long[] values = new long[MOST_PARTS];
        int filled;
        int loaded = NONE;
        boolean found;

        Line(int record, int build, KeptPart[] parts) {
            this.record = record;
            this.build = build;
            this.parts = parts;
        }

        KeptPart keptAs(long name) {
            for (int i = 0; i < parts.length; i++) {
                if (parts[i].name == name) return parts[i];
            }
            return null;
        }

        void unload() {
            loaded = NONE;
            for (int i = 0; i < parts.length; i++) parts[i].loadedRow = NONE;
        }
    }

    /** Names and numbers as bits; floats and doubles are never anything else here. */
    static final class Bits {
        private static final int FLOAT_FRACTION = 23, FLOAT_BIAS = 127;
        private static final int DOUBLE_FRACTION = 52, DOUBLE_BIAS = 1023;
        private static final int FLOAT_INFINITE = 0x7f800000, FLOAT_NO_NUMBER = 0x7fc00000;
        private static final long DOUBLE_INFINITE = 0x7ff0000000000000L, DOUBLE_NO_NUMBER = 0x7ff8000000000000L;

        static boolean isName(long name) {
            boolean ended = false;
            for (int i = 0; i < 64; i += 8) {
                long letter = name >>> i & 0xff;
                if (letter == 0) ended = true;
                else if (ended || letter < 'a' || letter > 'z') return false;
            }
            return name != 0;
        }

        static long shaped(int sort, long bits) {
            switch (sort) {
                case FLAG: return bits != 0 ? 1 : 0;
                case BYTE: return (byte) bits;
                case SHORT: return (short) bits;
                case CHAR: return (char) bits;
                case INT: return (int) bits;
                case FLOAT: return ((int) bits & Integer.MAX_VALUE) > FLOAT_INFINITE ? FLOAT_NO_NUMBER : (int) bits;
                case DOUBLE: return isNumber(bits) ? bits : DOUBLE_NO_NUMBER;
                default: return bits;
            }
        }

        private static boolean isNumber(long doubleBits) {
            return (doubleBits & Long.MAX_VALUE) <= DOUBLE_INFINITE;
        }

        /** As the machine widens a number of one sort to another one that it goes to. */
        static long widened(int from, int to, long bits) {
            if (from == to) return bits;
            if (to == FLOAT) return floatOfWhole(bits);
            if (to == DOUBLE) return from == FLOAT ? doubleOfFloat((int) bits) : doubleOfWhole(bits);
            return bits;
        }

        static boolean isBetween(int sort, long bits, long a, long b) {
            if (sort != FLOAT && sort != DOUBLE) return bits >= a && bits <= b;
            long wide = sort == FLOAT ? doubleOfFloat((int) bits) : bits;
            if (!isNumber(wide)) return false;
            return place(wide) >= place(doubleOfWhole(a)) && place(wide) <= place(doubleOfWhole(b));
        }

        /** Places of doubles that are numbers stand in their order, with one place for both zeros. */
        private static long place(long doubleBits) {
            return doubleBits >= 0 ? doubleBits : -(doubleBits & Long.MAX_VALUE);
        }

        private static long floatOfWhole(long whole) {
            int bits = (int) sizeOfWhole(whole, FLOAT_FRACTION, FLOAT_BIAS);
            return whole < 0 ? bits | Integer.MIN_VALUE : bits;
        }

        private static long doubleOfWhole(long whole) {
            long bits = sizeOfWhole(whole, DOUBLE_FRACTION, DOUBLE_BIAS);
            return whole < 0 ? bits | Long.MIN_VALUE : bits;
        }

        /** The bits below the sign. The least long has no size of its own, but read without a sign it is right. */
        private static long sizeOfWhole(long whole, int fraction, int bias) {
            if (whole == 0) return 0;
            long size = whole < 0 ? -whole : whole;
            int top = 63 - Long.numberOfLeadingZeros(size);
            long lead = top <= fraction ? size << fraction - top : nearestEven(size, top - fraction);
            // The leading one is not written; where rounding made it two, the sum carries into the exponent.
            return ((long) (bias + top) << fraction) + lead - (1L << fraction);
        }

        private static long nearestEven(long size, int dropped) {
            long whole = size >>> dropped;
            long rest = size & (1L << dropped) - 1;
            long half = 1L << dropped - 1;
            boolean up = rest > half || rest == half && (whole & 1) != 0;
            return up ? whole + 1 : whole;
        }

        private static long doubleOfFloat(int bits) {
            long sign = bits < 0 ? Long.MIN_VALUE : 0;
            int size = bits & Integer.MAX_VALUE;
            if (size == 0) return sign;
            if (size > FLOAT_INFINITE) return DOUBLE_NO_NUMBER;
            if (size == FLOAT_INFINITE) return sign | DOUBLE_INFINITE;
            int exponent = size >> FLOAT_FRACTION;
            long fraction = size & (1 << FLOAT_FRACTION) - 1;
            if (exponent == 0) {
                // A float too small for a leading one has one as a double.
                int shift = Long.numberOfLeadingZeros(fraction) - (63 - FLOAT_FRACTION);
                exponent = 1 - shift;
                fraction = (fraction << shift) - (1L << FLOAT_FRACTION);
            }
            long moved = (long) (exponent - FLOAT_BIAS + DOUBLE_BIAS) << DOUBLE_FRACTION;
            return sign | moved | fraction << DOUBLE_FRACTION - FLOAT_FRACTION;
        }
    }
}
