/** All that can be seen of an object; at most some 450 calls, so that it stays below the 512. */
final class Seen {
    private static final int TRAY_PLACES = 5;

    private Seen() {
    }

    /** All of it, what is kept for later, too; the object is of no more use then. */
    static String all(MarginPlan x) {
        StringBuilder s = new StringBuilder();
        s.append("fault ").append(x.fault(0)).append(' ').append(x.fault(1));
        s.append(" fraction ").append(x.top()).append('/').append(x.bottom());
        trays(x, s);
        told(x, s);
        book(x, s);
        s.append("\ntape ").append(x.feed(0x20202020, 0x20202020, 0x20202020, 0x20202020, 0x20202020));
        life(x, s);
        s.append("\nturn ").append(x.turn(7)).append(' ').append(x.next());
        book(x, s);
        for (int i = 0; i < 2; i++) {
            s.append("\nback ").append(x.back());
            book(x, s);
        }
        life(x, s);
        s.append("\nback ").append(x.back());
        // What the tape has comes to light as the ROUNDS.
        s.append("\nrounds ").append(x.rounds(16)).append(' ').append(x.status());
        life(x, s);
        return s.toString();
    }

    /** What a call with STATUS 10 leaves: all but the tape and what fault() tells. */
    static String butTapeAndFault(MarginPlan x) {
        StringBuilder s = new StringBuilder();
        s.append("fraction ").append(x.top()).append('/').append(x.bottom());
        trays(x, s);
        told(x, s);
        book(x, s);
        life(x, s);
        book(x, s);
        for (int i = 0; i < 2; i++) {
            s.append("\nback ").append(x.back());
            book(x, s);
        }
        return s.toString();
    }

    private static void trays(MarginPlan x, StringBuilder s) {
        for (int tray = 0; tray < 4; tray++) {
            s.append("\ntray ").append(tray);
            for (int i = 0; i <= TRAY_PLACES; i++) {
                s.append(' ').append(x.read(tray, i)).append(x.status() == 0 ? "" : "?");
            }
        }
    }

    private static void told(MarginPlan x, StringBuilder s) {
        s.append("\nlived");
        for (int i = 0; i < 5; i++) {
            s.append(' ').append(x.lived(i));
        }
        s.append("\nbest");
        for (int i = 0; i < 4; i++) {
            s.append(' ').append(x.bestAt(i));
        }
    }

    private static void life(MarginPlan x, StringBuilder s) {
        s.append("\nlife ").append(x.live(77)).append(' ').append(x.status());
        for (int i = 0; i < 5; i++) {
            s.append(' ').append(x.lived(i));
        }
    }

    /** The BOOK: 4 CELLS, 2 SECRETS and 3 PAGES at most are looked at. */
    private static void book(MarginPlan x, StringBuilder s) {
        s.append("\nmany");
        for (int i = 0; i < 9; i++) {
            s.append(' ').append(x.many(i));
        }
        s.append(" next ").append(x.next()).append("\ncells");
        for (int cell = 0; cell < 4; cell++) {
            for (int what = 0; what < 6; what++) {
                s.append(' ').append(x.cell(cell, what));
            }
            s.append(',');
        }
        s.append("\npages");
        for (int page = 0; page < 3; page++) {
            for (int what = 0; what < 3; what++) {
                s.append(' ').append(x.page(page, what));
            }
            s.append(' ').append(x.pricks(page, 0)).append(' ').append(x.pricks(page, 1)).append(',');
        }
        s.append(" secrets ").append(x.secret(0)).append(' ').append(x.secret(1));
    }
}
