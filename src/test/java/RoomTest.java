import com.sun.management.ThreadMXBean;
import java.lang.management.ManagementFactory;

/**
 * What the dearest runs allocate. All calls of a run share room for some 600,000 objects and 7.3 million fields;
 * an object is 16 bytes or more here, so 4 MiB are well within both.
 */
public final class RoomTest {
    private static final Due due = new Due();
    private static final long MOST = 4 << 20;
    private static final ThreadMXBean THREADS = (ThreadMXBean) ManagementFactory.getThreadMXBean();

    public static void main(String[] args) {
        allocated();
        long before = allocated();
        for (int i = 0; i < 512; i++) new FamilyFields();
        tell("512 new objects", before);
        before = allocated();
        loadsOfEverything();
        tell("loads of everything in each build", before);
        before = allocated();
        rowsAndObjects();
        tell("rows and objects in each build", before);
        before = allocated();
        changingTypes();
        tell("changing types", before);
        before = allocated();
        lookingUp();
        tell("looking up", before);
        due.end();
    }

    private static long allocated() {
        return THREADS.getThreadAllocatedBytes(Thread.currentThread().getId());
    }

    private static void tell(String what, long before) {
        long used = allocated() - before;
        System.out.println(what + ": " + used + " bytes");
        due.holds(what + " allocates little", used <= MOST);
    }

    /** 64 lines of rows, each the part of the next. */
    private static FamilyFields full() {
        FamilyFields x = new FamilyFields();
        x.family();
        x.record();
        x.permit(0, false, 0);
        for (int i = 0; i < 5; i++) x.part(0, 'a' + i, 10, 5, 0);
        x.part(0, 'z', 11, 0, 0);
        x.row(5, 16);
        for (int i = 0; i < 64; i++) {
            x.give(5, i - 1);
            x.make(0);
        }
        x.keep(63);
        return x;
    }

    private static void loadsOfEverything() {
        FamilyFields x = full();
        for (int i = 0; i < 186; i++) {
            x.build();
            due.is("30: load", x.load(63), 63);
        }
        due.is("34: rows", x.count(3), 320);
    }

    private static void rowsAndObjects() {
        FamilyFields x = new FamilyFields();
        x.record();
        for (int b = 0; b < 3; b++) {
            for (int i = 0; i < 40; i++) x.row(7, 16);
            for (int i = 0; i < 100; i++) x.make(0);
            x.same(98, 99);
            x.build();
        }
    }

    private static void changingTypes() {
        FamilyFields x = new FamilyFields();
        x.record();
        x.enumeration();
        for (int i = 0; i < 85; i++) {
            x.part(0, 'a', 4, 0, 0);
            x.becomes(0, 0, 5, 0);
            x.check(0, 0, 0, 0, 0);
            x.without(0, 0);
            x.constant(0, 'a', true);
            x.forget(0, 0);
        }
    }

    private static void lookingUp() {
        FamilyFields x = full();
        for (int i = 0; i < 186; i++) {
            x.word('a', 'a', -1);
            x.range('a', 0, 0, 7, -1);
        }
    }
}
