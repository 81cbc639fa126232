import java.lang.management.ManagementFactory;

/** All calls of a run live in one room: what is made is made with the object, and no call makes more. */
public final class RoomRuns {
    private static final int CALLS = 512;
    /** 7.3 million elements are some 30 million bytes; a little is left for what the machine itself may take. */
    private static final long OBJECT_BYTES = 400_000, CALL_BYTES = 20_000;
    private static int wrong = 0;

    private static void within(String what, long bytes, long most) {
        if (bytes < 0 || bytes > most) {
            wrong++;
            System.out.println("RoomRuns: " + what + " made " + bytes + " bytes, at most " + most + " are due");
        }
    }

    public static void main(String[] args) {
        com.sun.management.ThreadMXBean room = (com.sun.management.ThreadMXBean) ManagementFactory.getThreadMXBean();
        long me = Thread.currentThread().getId();
        // the machine's own room, for what it loads at first, is taken ahead of the counting
        room.getThreadAllocatedBytes(me);
        for (int kind = 0; kind < 12; kind++) {
            calls(new KeptCurves(), kind);
        }
        for (int kind = 0; kind < 12; kind++) {
            long start = room.getThreadAllocatedBytes(me);
            KeptCurves curves = new KeptCurves();
            long made = room.getThreadAllocatedBytes(me);
            calls(curves, kind);
            long called = room.getThreadAllocatedBytes(me);
            within("an object", made - start, OBJECT_BYTES);
            within("the calls of kind " + kind, called - made, CALL_BYTES);
        }
        System.out.println(wrong == 0 ? "RoomRuns: all is as due" : "RoomRuns: " + wrong + " are not as due");
        if (wrong != 0) {
            System.exit(1);
        }
    }

    private static void calls(KeptCurves curves, int kind) {
        for (int place = 0; place < 18; place++) {
            curves.set(place / 9, place / 3 % 3, place % 3, (7 * place * place + 3 * place + 5) % 31);
        }
        for (int n = 18; n < CALLS / 3; n++) {
            curves.set(0, n % 3, n / 3 % 3, n % 31);
            call(curves, kind, n);
        }
    }

    private static void call(KeptCurves curves, int kind, int n) {
        switch (kind) {
            case 0: curves.degree(3, n % 31, n % 2); break;
            case 1: curves.cycles(n % 32, n % 3); break;
            case 2: curves.rank(n % 32); break;
            case 3: curves.grows(curves.tell(n % 32, n / 32) > 0 ? 40 : 39); break;
            case 4: curves.period(n % 32, n / 32); break;
            case 5: curves.odds(n % 32, n, 30, 0); break;
            case 6: curves.write(0); break;
            case 7: curves.list(n % 4, 12); break;
            case 8: curves.undo(); curves.image(); break;
            case 9: curves.ends(n % 32, curves.plan(n % 2, 9) & 31); break;
            case 10: curves.moved(curves.tell(n % 32, n / 32) > 0 ? -1 : 0); break;
            default: curves.table(curves.feed('1') & 1);
        }
    }
}
