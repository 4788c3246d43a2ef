import java.util.function.Consumer;

/** Terms 5: each call that can be refused, by each STATUS, on an object in the middle of much; it changes nothing but STATUS. */
public final class EdgesOfStatusTest {
    private static final Check c = new Check("EdgesOfStatusTest");
    private static final String BOOK = "cell a pricks 3;cell b pricks 2 blind;cell d pricks 4 rubs;cell e;secret s letters 5;secret t letters 3;"
        + "page p room 9;page q room 6;page r room 4;knows a s;knows d t;knows e s;knows e t;order d a b;read p odds 5;read q odds 9;";
    private static final String ROUNDS = "loop 2;turn 2;warder;end;when knows a t;damp q;end;move a b;";

    /** TRAYS of three sorts, ROUNDS, two MARKS, a BEST ORDER, a FRACTION, a FAULT, something on the tape. */
    private static void busy(MarginPlan x) {
        Texts.lay(x, 0, 0, 1, 2, 1);
        Texts.lay(x, 1, 0, 1, 2, 1, 2, 1);
        Texts.lay(x, 2, 3, Long.MIN_VALUE, -1);
        Check.book(x, BOOK);
        Check.rounds(x, ROUNDS);
        x.turn(2);
        x.mark();
        x.live(7);
        x.bestOrder();
        x.mark();
        x.tell(1, 1);
        x.ill(1, true);
        x.damp(2, true);
        x.watch(0, 7);
        x.risk(2);
        Check.rounds(x, "stop; go;");
        Check.feed(x, "turn 2; ill a;  ");
    }

    public static void main(String[] args) {
        c.says("Terms 5", "A call with another STATUS than 0 gives NONE, or false, and changes nothing but STATUS (but book(), rounds() with 10 the tape,"
            + " and what fault() tells).");
        theSceneIsBusy();
        firstThatHolds();
        trays();
        texts();
        faults();
        looking();
        done();
        ahead();
        pages();
        words();
        lives();
        marks();
        noStatus();
        c.end();
    }

    private static Twins twins(Consumer<MarginPlan> more) {
        return new Twins(c, x -> {
            busy(x);
            more.accept(x);
        });
    }

    private static Twins twins() {
        return twins(x -> { });
    }

    /** Or the others would test little. */
    private static void theSceneIsBusy() {
        MarginPlan x = new MarginPlan();
        busy(x);
        c.due("FAULT", x.fault(0) * 10 + x.fault(1), 26);
        c.due("a FRACTION", x.bottom() > 1, true);
        c.due("lived", x.lived(1), 4);
        c.due("best", x.bestAt(2) >= 0, true);
        c.due("PRICKS", x.many(5) > 0, true);
        c.due("ILL", x.many(7), 2);
        c.due("SHUT", x.many(8) >= 4, true);
        c.due("the ORDER", x.many(3), 3);
        c.due("a third MARK", x.mark(), 3);
        c.due("ROUNDS", x.live(0) > 4, true);
        c.due("the tape", x.rounds(16), 2);
    }

    private static void firstThatHolds() {
        c.says("Terms 5", "STATUS of a call is the first of these that holds");
        Twins t = twins();
        t.denies("tray: 1, 5", x -> x.tray(4, 0, 61), 1);
        t.denies("tray: 1, 6", x -> x.tray(0, 4, -1), 1);
        t.denies("write: 1, 4", x -> x.write(-1, -1, 0), 1);
        t.denies("write: 3, 4", x -> x.write(3, -1, 0), 3);
        t.refuses("read: 1, 4", x -> x.read(-1, -1), 1);
        t.refuses("read: 3, 4", x -> x.read(3, -1), 3);
        t.refuses("cell: 2, 5", x -> x.cell(4, 6), 2);
        t.refuses("page: 2, 5", x -> x.page(3, 4), 2);
        t.refuses("copyPage: 1, 2", x -> x.copyPage(3, 4), 1);
        t.refuses("copyPage: 2, 3", x -> x.copyPage(3, 3), 2);
        twins(x -> Texts.lay(x, 3, 1, 77)).refuses("copyPage: 2, 4", x -> x.copyPage(3, 3), 2);
        t.denies("damp: 2, 9", x -> x.damp(-1, false), 2);
        t.denies("ill: 2, 9", x -> x.ill(-1, false), 2);
        t.denies("move: 2, 9", x -> x.move(4, 4), 2);
        t.denies("watch: 2, 5", x -> x.watch(3, 17), 2);
        t.refuses("later: 2, 5", x -> x.later(4, 1000), 2);
        t.refuses("roomIn: 2, 5", x -> x.roomIn(3, 1000), 2);
        t.refuses("pricked: 1, 3, 4, 5", x -> x.pricked(4, 99, 3, 0), 1);
        t.refuses("pricked: 3, 4, 5", x -> x.pricked(0, 99, 3, 0), 3);
        t.refuses("pricked: 4, 5", x -> x.pricked(0, 99, 1, 0), 4);
        t.refuses("prickAt: 1, 3, 4, 5", x -> x.prickAt(4, 99, 3, 0, -1), 1);
        t.refuses("prickAt: 3, 4, 5", x -> x.prickAt(0, 99, 3, 0, -1), 3);
        t.refuses("prickAt: 4, 5", x -> x.prickAt(0, 99, 1, 0, -1), 4);
        t.refuses("prickAt: 5, 8", x -> x.prickAt(0, 3, 1, 2, 3), 5);
        t.refuses("shortest: 4, 5", x -> x.shortest(0, 99, 1, 0), 4);
        t.denies("mean: 2, 5", x -> x.mean(4, -1, 0), 2);
        Twins none = twins(x -> {
            Check.emptyTape(x);
            Check.book(x, BOOK);
        });
        none.refuses("live: 5, 8", x -> x.live(-1), 5);
        none.denies("mean: 2, 8", x -> x.mean(4, 0, 1), 2);
        none.denies("mean: 5, 8", x -> x.mean(0, 0, 0), 5);
        new Twins(c, x -> x.mark()).refuses("lived: 5, 8", x -> x.lived(5), 5);
    }

    private static void trays() {
        Twins t = twins();
        t.denies("tray(4, 0, 1)", x -> x.tray(4, 0, 1), 1);
        t.denies("tray(-1, 0, 1)", x -> x.tray(-1, 0, 1), 1);
        t.denies("tray(0, 4, 1)", x -> x.tray(0, 4, 1), 1);
        t.denies("tray(0, -1, 1)", x -> x.tray(0, -1, 1), 1);
        t.denies("tray(0, 1, 61)", x -> x.tray(0, 1, 61), 5);
        t.denies("tray(3, 1, 61)", x -> x.tray(3, 1, 61), 5);
        t.denies("tray(0, 1, -1)", x -> x.tray(0, 1, -1), 6);
        t.denies("tray(3, 1, -1)", x -> x.tray(3, 1, -1), 6);
        t.denies("write(4, 0, 9)", x -> x.write(4, 0, 9), 1);
        t.denies("write(3, 0, 9)", x -> x.write(3, 0, 9), 3);
        t.denies("write(0, 3, 9)", x -> x.write(0, 3, 9), 4);
        t.denies("write(0, -1, 9)", x -> x.write(0, -1, 9), 4);
        t.refuses("read(4, 0)", x -> x.read(4, 0), 1);
        t.refuses("read(3, 0)", x -> x.read(3, 0), 3);
        t.refuses("read(0, 3)", x -> x.read(0, 3), 4);
        t.denies("pour(0, 0, 4, 0, 1)", x -> x.pour(0, 0, 4, 0, 1), 1);
        t.denies("pour(0, 0, 3, 0, 1)", x -> x.pour(0, 0, 3, 0, 1), 3);
        t.denies("pour(0, 0, 2, 0, 1)", x -> x.pour(0, 0, 2, 0, 1), 11);
        t.denies("pour(0, 0, 1, 0, -1)", x -> x.pour(0, 0, 1, 0, -1), 6);
        t.denies("pour(0, 1, 1, 0, 3)", x -> x.pour(0, 1, 1, 0, 3), 4);
        t.denies("pour(1, 0, 0, 1, 3)", x -> x.pour(1, 0, 0, 1, 3), 4);
        t.denies("pour(0, 4, 1, 0, 0)", x -> x.pour(0, 4, 1, 0, 0), 4);
    }

    private static void texts() {
        Twins t = twins();
        t.refuses("book(-1)", x -> x.book(-1), 5);
        t.refuses("book(21)", x -> x.book(21), 5);
        t.refuses("rounds(-1)", x -> x.rounds(-1), 5);
        t.refuses("rounds(21)", x -> x.rounds(21), 5);
        Twins full = twins(x -> Check.feed(x, Check.times(" ", 340)));
        full.refuses("rounds(301)", x -> x.rounds(301), 5);
        Twins empty = twins(x -> x.rounds(0));
        empty.refuses("book(1)", x -> x.book(1), 5);
        empty.refuses("rounds(1)", x -> x.rounds(1), 5);
    }

    private static void faults() {
        Twins t = twins(Check::emptyTape);
        // All but ROUNDS: these were emptied with the tape, so they are told anew.
        Twins u = twins(x -> {
            Check.emptyTape(x);
            Check.rounds(x, ROUNDS);
        });
        for (Twins twins : new Twins[] {t, u}) {
            twins.faulty("a BOOK with FAULT 1", x -> Check.book(x, "cell z;order z;#"), 1, 15);
            twins.faulty("a BOOK with FAULT 2", x -> Check.book(x, "page z room 4;page y room 5"), 2, 27);
            twins.faulty("a BOOK with FAULT 3", x -> Check.book(x, "cell z;secret z letters 4;"), 3, 14);
            twins.faulty("a BOOK with FAULT 4", x -> Check.book(x, "secret z letters 21;"), 4, 17);
            twins.faulty("a BOOK with FAULT 5", x -> Check.book(x, "cell z;order z z;"), 5, 15);
            twins.faulty("a BOOK with FAULT 6", x -> Check.book(x, Texts.cells(9, " blind")), 6, 104);
            twins.faulty("ROUNDS with FAULT 1", x -> Check.rounds(x, "stop;turn 12345;"), 1, 10);
            twins.faulty("ROUNDS with FAULT 2", x -> Check.rounds(x, "loop 2;stop;"), 2, 12);
            twins.faulty("ROUNDS with FAULT 3", x -> Check.rounds(x, "stop;ill s;"), 3, 9);
            twins.faulty("ROUNDS with FAULT 4", x -> Check.rounds(x, "loop 2;turn 0;"), 4, 12);
            twins.faulty("ROUNDS with FAULT 6", x -> Check.rounds(x, Check.times("stop;", 31)), 6, 150);
            twins.faulty("ROUNDS with FAULT 7", x -> Check.rounds(x, "loop 1;loop 1;loop 1;loop 1;"), 7, 21);
        }
    }

    private static void looking() {
        Twins t = twins();
        t.refuses("many(9)", x -> x.many(9), 5);
        t.refuses("many(-1)", x -> x.many(-1), 5);
        t.refuses("cell(4, 0)", x -> x.cell(4, 0), 2);
        t.refuses("cell(0, 6)", x -> x.cell(0, 6), 5);
        t.refuses("cell(3, 4)", x -> x.cell(3, 4), 8);
        t.refuses("secret(2)", x -> x.secret(2), 2);
        t.refuses("page(3, 0)", x -> x.page(3, 0), 2);
        t.refuses("page(0, 4)", x -> x.page(0, 4), 5);
        t.refuses("pricks(3, 0)", x -> x.pricks(3, 0), 2);
        t.refuses("pricks(0, 2)", x -> x.pricks(0, 2), 2);
        t.refuses("orderAt(3)", x -> x.orderAt(3), 8);
        t.refuses("knowers(2)", x -> x.knowers(2), 2);
        t.refuses("copyPage(0, 4)", x -> x.copyPage(0, 4), 1);
        t.refuses("copyPage(3, 0)", x -> x.copyPage(3, 0), 2);
        t.refuses("copyPage(0, 3)", x -> x.copyPage(0, 3), 3);
        twins(x -> Texts.lay(x, 3, 1, 77)).refuses("copyPage(0, 3)", x -> x.copyPage(0, 3), 4);
        Twins ill = twins(x -> {
            x.ill(0, true);
            x.ill(2, true);
        });
        ill.refuses("next()", MarginPlan::next, 8);
    }

    private static void done() {
        Twins t = twins();
        t.refuses("turn(0)", x -> x.turn(0), 5);
        t.refuses("turn(100)", x -> x.turn(100), 5);
        Twins late = twins(x -> {
            for (int i = 0; i < 100; i++) {
                x.turn(99);
            }
            x.turn(70);
        });
        late.refuses("turn(99)", x -> x.turn(99), 7);
        t.refuses("rub(3)", x -> x.rub(3), 2);
        twins(x -> x.rub(0)).refuses("rub(0)", x -> x.rub(0), 8);
        t.denies("damp(3, true)", x -> x.damp(3, true), 2);
        t.denies("damp(2, true)", x -> x.damp(2, true), 9);
        t.denies("damp(0, false)", x -> x.damp(0, false), 9);
        t.denies("ill(4, true)", x -> x.ill(4, true), 2);
        t.denies("ill(1, true)", x -> x.ill(1, true), 9);
        t.denies("ill(0, false)", x -> x.ill(0, false), 9);
        t.denies("move(0, 4)", x -> x.move(0, 4), 2);
        t.denies("move(4, 0)", x -> x.move(4, 0), 2);
        t.denies("move(0, 0)", x -> x.move(0, 0), 9);
        t.denies("move(0, 3)", x -> x.move(0, 3), 9);
        t.denies("move(3, 0)", x -> x.move(3, 0), 9);
        t.denies("tell(4, 0)", x -> x.tell(4, 0), 2);
        t.denies("tell(0, 2)", x -> x.tell(0, 2), 2);
        t.denies("tell(1, 1)", x -> x.tell(1, 1), 9);
        t.denies("watch(3, 0)", x -> x.watch(3, 0), 2);
        t.denies("watch(0, 17)", x -> x.watch(0, 17), 5);
        t.denies("watch(0, -1)", x -> x.watch(0, -1), 5);
    }

    private static void ahead() {
        Twins t = twins();
        t.refuses("when(4, 0)", x -> x.when(4, 0), 2);
        t.refuses("when(0, 2)", x -> x.when(0, 2), 2);
        t.refuses("when(1, 0)", x -> x.when(1, 0), 8);
        t.refuses("heard(2)", x -> x.heard(2), 2);
        t.refuses("later(4, 0)", x -> x.later(4, 0), 2);
        t.refuses("later(0, 1000)", x -> x.later(0, 1000), 5);
        t.refuses("later(0, -1)", x -> x.later(0, -1), 5);
        t.refuses("roomIn(3, 0)", x -> x.roomIn(3, 0), 2);
        t.refuses("roomIn(0, 1000)", x -> x.roomIn(0, 1000), 5);
        t.refuses("roomIn(0, -1)", x -> x.roomIn(0, -1), 5);
        t.refuses("bestAt(3)", x -> x.bestAt(3), 8);
        t.refuses("bestAt(-1)", x -> x.bestAt(-1), 8);
        Twins never = twins(x -> {
            for (int page = 0; page < 3; page++) {
                x.damp(page, true);
            }
            x.ill(2, true);
            x.ill(0, true);
            Check.emptyTape(x);
            Check.book(x, BOOK.replace("knows e s;", ""));
            Check.rounds(x, ROUNDS);
            x.turn(3);
        });
        never.refuses("heard(0)", x -> x.heard(0), 8);
        never.refuses("all()", MarginPlan::all, 8);
        never.refuses("bestOrder()", MarginPlan::bestOrder, 8);
        Twins none = twins(x -> {
            Check.emptyTape(x);
            Check.book(x, "cell a;cell b;secret s letters 5;secret t letters 4;page p room 9;");
            Check.rounds(x, "turn 3;");
            x.turn(3);
        });
        none.refuses("firstHeard()", MarginPlan::firstHeard, 8);
        Twins seven = twins(x -> {
            Check.emptyTape(x);
            Check.book(x, Texts.cells(7, " pricks 2") + Texts.secrets(2, 3) + Texts.pages(2, 5) + Texts.knows('a', 2));
            Check.rounds(x, "turn 3;");
            x.turn(3);
        });
        seven.refuses("bestOrder()", MarginPlan::bestOrder, 9);
    }

    private static void pages() {
        Twins t = twins();
        t.denies("risk(3)", x -> x.risk(3), 5);
        t.denies("risk(-1)", x -> x.risk(-1), 5);
        t.refuses("hide(2)", x -> x.hide(2), 2);
        t.denies("mix(3)", x -> x.mix(3), 2);
        t.denies("mix(2)", x -> x.mix(2), 9);
        Twins shut = twins(x -> {
            for (int page = 0; page < 3; page++) {
                x.damp(page, true);
            }
        });
        shut.refuses("kept()", MarginPlan::kept, 8);
        shut.refuses("hide(0)", x -> x.hide(0), 8);
        shut.denies("game()", MarginPlan::game, 8);
        Twins small = twins(x -> {
            Check.emptyTape(x);
            Check.book(x, "cell a;cell b;secret s letters 9;secret t letters 4;page p room 8;page q room 4;page r room 3;knows a s;knows a t;");
            Check.rounds(x, "turn 3;");
            x.turn(3);
        });
        small.refuses("fits()", MarginPlan::fits, 8);
        small.refuses("fitSet()", MarginPlan::fitSet, 8);
    }

    private static void words() {
        Twins t = twins();
        int[][] wrong = {{4, 1, 1, 1, 1}, {0, 1, 4, 1, 1}, {3, 1, 1, 1, 3}, {0, 1, 3, 1, 3}, {0, 4, 1, 1, 4}, {0, 1, 1, 6, 4}, {0, 0, 1, 1, 5},
            {0, 1, 1, 0, 5}, {2, 1, 1, 1, 5}, {0, 1, 2, 1, 5}};
        for (int[] w : wrong) {
            String call = "(" + w[0] + ", " + w[1] + ", " + w[2] + ", " + w[3] + ")";
            t.refuses("pricked" + call, x -> x.pricked(w[0], w[1], w[2], w[3]), w[4]);
            t.refuses("prickAt" + call, x -> x.prickAt(w[0], w[1], w[2], w[3], 0), w[4]);
            t.refuses("shortest" + call, x -> x.shortest(w[0], w[1], w[2], w[3]), w[4]);
        }
        t.refuses("prickAt(0, 3, 1, 5, 3)", x -> x.prickAt(0, 3, 1, 5, 3), 5);
        t.refuses("prickAt(0, 3, 1, 5, -1)", x -> x.prickAt(0, 3, 1, 5, -1), 5);
        t.refuses("prickAt(0, 3, 1, 2, 0)", x -> x.prickAt(0, 3, 1, 2, 0), 8);
        t.refuses("shortest(0, 3, 1, 2)", x -> x.shortest(0, 3, 1, 2), 8);
    }

    private static void lives() {
        Twins t = twins();
        t.refuses("live(-1)", x -> x.live(-1), 5);
        t.refuses("live(10000)", x -> x.live(10000), 5);
        t.refuses("lived(5)", x -> x.lived(5), 5);
        t.refuses("lived(-1)", x -> x.lived(-1), 5);
        t.denies("mean(4, 0, 1)", x -> x.mean(4, 0, 1), 2);
        t.denies("mean(0, -1, 1)", x -> x.mean(0, -1, 1), 5);
        t.denies("mean(0, 9999, 2)", x -> x.mean(0, 9999, 2), 5);
        t.denies("mean(0, 0, 21)", x -> x.mean(0, 0, 21), 5);
        t.denies("mean(0, 0, 0)", x -> x.mean(0, 0, 0), 5);
        Twins none = twins(x -> {
            Check.emptyTape(x);
            Check.book(x, BOOK);
            x.turn(3);
        });
        none.refuses("live(0)", x -> x.live(0), 8);
        none.denies("mean(0, 0, 1)", x -> x.mean(0, 0, 1), 8);
        Twins fresh = new Twins(c, x -> Check.book(x, BOOK));
        fresh.refuses("lived(0)", x -> x.lived(0), 8);
        fresh.refuses("bestAt(0)", x -> x.bestAt(0), 8);
    }

    private static void marks() {
        twins(MarginPlan::mark).refuses("mark()", MarginPlan::mark, 7);
        Twins none = twins(x -> {
            x.back();
            x.back();
            x.turn(5);
        });
        none.refuses("back()", MarginPlan::back, 8);
    }

    private static void noStatus() {
        c.says("Terms 5", "status(), fault(), feed(), top(), bottom() have none.");
        for (int refused = 0; refused < 2; refused++) {
            MarginPlan x = new MarginPlan();
            x.many(refused == 0 ? 0 : 9);
            int status = refused == 0 ? 0 : 5;
            x.status();
            x.fault(0);
            x.fault(1);
            x.fault(2);
            c.due("behind status() and fault()", x.status(), status);
            x.top();
            x.bottom();
            c.due("behind top() and bottom()", x.status(), status);
            for (int i = 0; i < 46; i++) {
                x.feed(1, 2, 3, 4, 5);
            }
            c.due("behind feed()", x.status(), status);
            x.pricked(0, 1, 1, 1);
            c.due("behind a call that has one", x.status(), 3);
        }
    }
}
