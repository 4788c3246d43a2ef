/** Promises 1 to 8. */
public final class TraysTest {
    private static final Check c = new Check("TraysTest");

    public static void main(String[] args) {
        newObject();
        statusStays();
        trays();
        cutting();
        writing();
        pouring();
        c.end();
    }

    private static void newObject() {
        MarginPlan x = new MarginPlan();
        c.due("NONE", MarginPlan.NONE, -1);
        c.due("status()", x.status(), 0);
        c.due("top()", x.top(), 0);
        c.due("bottom()", x.bottom(), 1);
        c.due("fault(0)", x.fault(0), -1);
        c.due("fault(1)", x.fault(1), -1);
        for (int what = 0; what < 9; what++) {
            c.fine(x, "many", x.many(what), 0);
        }
        for (int tray = 0; tray < 4; tray++) {
            c.refused(x, "read", x.read(tray, 0), 3);
        }
        c.refused(x, "book(1)", x.book(1), 5);
        c.refused(x, "live", x.live(0), 8);
        c.refused(x, "back", x.back(), 8);
        c.refused(x, "lived", x.lived(0), 8);
        c.refused(x, "bestAt", x.bestAt(0), 8);
        c.due("feed", x.feed(0, 0, 0, 0, 0), 20);
    }

    private static void statusStays() {
        MarginPlan x = new MarginPlan();
        x.many(9);
        c.due("status()", x.status(), 5);
        c.due("status()", x.status(), 5);
        x.fault(0);
        x.fault(7);
        x.top();
        x.bottom();
        x.feed(1, 2, 3, 4, 5);
        c.due("status() behind calls without one", x.status(), 5);
        x.many(0);
        c.due("status()", x.status(), 0);
        x.feed(1, 2, 3, 4, 5);
        c.due("status()", x.status(), 0);
    }

    private static void trays() {
        MarginPlan x = new MarginPlan();
        c.refused(x, "tray -1", x.tray(-1, 0, 1), 1);
        c.refused(x, "tray 4", x.tray(4, 0, 1), 1);
        c.refused(x, "sort -1", x.tray(0, -1, 1), 1);
        c.refused(x, "sort 4", x.tray(0, 4, 1), 1);
        c.refused(x, "1 ahead of 5", x.tray(4, 0, 61), 1);
        c.refused(x, "1 ahead of 6", x.tray(0, 4, -1), 1);
        c.refused(x, "many 61", x.tray(0, 0, 61), 5);
        c.refused(x, "many -1", x.tray(0, 0, -1), 6);
        c.refused(x, "many least", x.tray(0, 0, Integer.MIN_VALUE), 6);
        c.refused(x, "still missing", x.read(0, 0), 3);
        c.fine(x, "many 60", x.tray(0, 3, 60));
        c.fine(x, "last place", x.read(0, 59), 0);
        c.fine(x, "write", x.write(0, 59, 7));
        c.fine(x, "read", x.read(0, 59), 7);
        c.fine(x, "tray anew", x.tray(0, 3, 60));
        c.fine(x, "all 0", x.read(0, 59), 0);
        x.write(0, 0, 5);
        c.refused(x, "a bad tray changes nothing", x.tray(0, 3, 99), 5);
        c.fine(x, "still there", x.read(0, 0), 5);
        c.fine(x, "many 0", x.tray(0, 0, 0));
        c.refused(x, "no place", x.read(0, 0), 4);
    }

    private static void cutting() {
        MarginPlan x = new MarginPlan();
        long v = 0x123456789abcdef0L;
        long[] cut = {(byte) v, (short) v, (int) v, v};
        for (int sort = 0; sort < 4; sort++) {
            x.tray(sort, sort, 3);
            c.fine(x, "write", x.write(sort, 0, v));
            c.fine(x, "read", x.read(sort, 0), cut[sort]);
            x.write(sort, 1, -1);
            c.fine(x, "read -1 with status 0", x.read(sort, 1), -1);
            long high = sort == 3 ? Long.MIN_VALUE : 1L << ((8 << sort) - 1);
            x.write(sort, 2, high);
            c.fine(x, "the sign", x.read(sort, 2), sort == 3 ? high : -high);
        }
    }

    private static void writing() {
        MarginPlan x = new MarginPlan();
        c.refused(x, "write to -1", x.write(-1, 0, 1), 1);
        c.refused(x, "write to 4", x.write(4, 0, 1), 1);
        c.refused(x, "missing", x.write(0, 0, 1), 3);
        c.refused(x, "missing ahead of place", x.write(0, -1, 1), 3);
        c.refused(x, "read of -1", x.read(-1, 0), 1);
        c.refused(x, "read of 4", x.read(4, 0), 1);
        c.refused(x, "read of a missing one", x.read(3, 60), 3);
        x.tray(0, 0, 2);
        c.refused(x, "place -1", x.write(0, -1, 1), 4);
        c.refused(x, "place 2", x.write(0, 2, 1), 4);
        c.refused(x, "read place -1", x.read(0, -1), 4);
        c.refused(x, "read place 2", x.read(0, 2), 4);
    }

    private static void pouring() {
        MarginPlan x = new MarginPlan();
        x.tray(0, 2, 5);
        x.tray(1, 2, 3);
        x.tray(2, 1, 3);
        for (int i = 0; i < 5; i++) {
            x.write(0, i, i + 1);
        }
        c.fine(x, "pour", x.pour(0, 1, 1, 0, 3));
        c.fine(x, "poured", x.read(1, 0) * 100 + x.read(1, 1) * 10 + x.read(1, 2), 234);
        c.fine(x, "pour up in itself", x.pour(0, 0, 0, 1, 4));
        c.fine(x, "as they were", x.read(0, 1) * 1000 + x.read(0, 2) * 100 + x.read(0, 3) * 10 + x.read(0, 4), 1234);
        c.fine(x, "pour down in itself", x.pour(0, 2, 0, 0, 3));
        c.fine(x, "as they were", x.read(0, 0) * 100 + x.read(0, 1) * 10 + x.read(0, 2), 234);
        c.fine(x, "none at the end", x.pour(0, 5, 1, 3, 0));
        c.refused(x, "none above the end", x.pour(0, 6, 1, 3, 0), 4);
        c.refused(x, "none above the other end", x.pour(0, 5, 1, 4, 0), 4);
        c.refused(x, "none below", x.pour(0, -1, 1, 0, 0), 4);
        c.refused(x, "none below", x.pour(0, 0, 1, -1, 0), 4);
        c.refused(x, "too many", x.pour(0, 0, 1, 0, 4), 4);
        c.refused(x, "too many", x.pour(1, 1, 0, 0, 3), 4);
        c.refused(x, "far too many", x.pour(0, 1, 1, 1, Integer.MAX_VALUE), 4);
        c.refused(x, "far place", x.pour(0, Integer.MAX_VALUE, 1, 0, 1), 4);
        c.refused(x, "many -1", x.pour(0, 0, 1, 0, -1), 6);
        c.refused(x, "6 ahead of 4", x.pour(0, 9, 1, 0, -1), 6);
        c.refused(x, "unlike", x.pour(0, 0, 2, 0, 1), 11);
        c.refused(x, "11 ahead of 6", x.pour(0, 9, 2, 0, -1), 11);
        c.refused(x, "11 ahead of 4", x.pour(0, 9, 2, 0, 1), 11);
        c.refused(x, "missing from", x.pour(3, 0, 0, 0, 1), 3);
        c.refused(x, "missing to", x.pour(0, 0, 3, 0, 1), 3);
        c.refused(x, "1 ahead of 3", x.pour(3, 0, 4, 0, 1), 1);
        c.refused(x, "no such from", x.pour(-1, 0, 0, 0, 1), 1);
        c.refused(x, "no such to", x.pour(0, 0, -1, 0, 1), 1);
        c.fine(x, "nothing else changed", x.read(1, 0) * 100 + x.read(1, 1) * 10 + x.read(1, 2), 234);
    }
}
