import java.util.ArrayList;
import java.util.List;
import java.util.Random;

/** Promise 30: numbers kept as one sort and loaded as a wider one, against the machine's own casts. */
public final class WideningTest {
    private static final Due due = new Due();

    public static void main(String[] args) {
        List<Long> values = values();
        for (int from = 1; from <= 6; from++) {
            for (int at = 0; at < values.size(); at += 60) {
                compare(from, values.subList(at, Math.min(values.size(), at + 60)));
            }
        }
        due.end();
    }

    private static List<Long> values() {
        List<Long> all = new ArrayList<>();
        for (int i = 0; i < 64; i++) {
            for (int d = -2; d <= 2; d++) {
                all.add((1L << i) + d);
                all.add(-(1L << i) + d);
            }
        }
        // Around the halves between two floats and two doubles of each size.
        for (int i = 24; i < 63; i++) {
            for (int odd = 0; odd < 2; odd++) {
                long floatHalf = (1L << i) + ((long) odd << i - 23) + (1L << i - 24);
                long doubleHalf = i < 53 ? 0 : (1L << i) + ((long) odd << i - 52) + (1L << i - 53);
                for (int d = -1; d <= 1; d++) {
                    all.add(floatHalf + d);
                    all.add(-floatHalf + d);
                    all.add(doubleHalf + d);
                    all.add(-doubleHalf + d);
                }
            }
        }
        float[] floats = {0f, -0f, 1.5f, -1.5f, Float.MIN_VALUE, -Float.MIN_VALUE, Float.MIN_NORMAL, Float.MAX_VALUE,
            -Float.MAX_VALUE, Float.POSITIVE_INFINITY, Float.NEGATIVE_INFINITY, Float.NaN};
        for (float f : floats) all.add((long) Float.floatToRawIntBits(f));
        for (int i = 0; i < 23; i++) {
            all.add(1L << i);
            all.add((1L << i) + 1 | 0x80000000L);
            all.add((1L << i + 1) - 1);
        }
        long[] odd = {0x7f800001L, 0xffffffffL, 0xff800001L, 0x7fffffffL, 0x7fffffL, 0x800000L, 0x807fffffL};
        for (long each : odd) all.add(each);
        Random random = new Random(7);
        for (int i = 0; i < 1500; i++) all.add(random.nextLong() >> random.nextInt(64));
        return all;
    }

    private static void compare(int from, List<Long> values) {
        FamilyFields x = new FamilyFields();
        x.record();
        x.part(0, 'a', from, 0, 0);
        for (long v : values) {
            x.give(0, v);
            x.keep(x.make(0));
        }
        int now = from;
        for (int to = from; to <= 7; to++) {
            boolean goes = to == from || to > 3 || from == 1 && to == 2;
            if (!goes) continue;
            x.build();
            due.is("12: becomes", x.becomes(0, 0, to, 0), now);
            now = to;
            for (int i = 0; i < values.size(); i++) {
                due.is("30: " + values.get(i) + " of sort " + from + " as " + to, x.told(x.load(i), 0),
                        widened(from, to, values.get(i)));
            }
        }
    }

    private static long widened(int from, int to, long bits) {
        float f = Float.intBitsToFloat((int) bits);
        switch (from) {
            case 1: return to == 6 ? bitsOf((float) (byte) bits) : to == 7 ? bitsOf((double) (byte) bits) : (byte) bits;
            case 2: return to == 6 ? bitsOf((float) (short) bits) : to == 7 ? bitsOf((double) (short) bits) : (short) bits;
            case 3: return to == 6 ? bitsOf((float) (char) bits) : to == 7 ? bitsOf((double) (char) bits) : (char) bits;
            case 4: return to == 6 ? bitsOf((float) (int) bits) : to == 7 ? bitsOf((double) (int) bits) : (int) bits;
            case 5: return to == 6 ? bitsOf((float) bits) : to == 7 ? bitsOf((double) bits) : bits;
            default: return to == 6 ? bitsOf(f) : bitsOf((double) f);
        }
    }

    private static long bitsOf(float f) {
        return Float.floatToIntBits(f);
    }

    private static long bitsOf(double d) {
        return Double.doubleToLongBits(d);
    }
}
