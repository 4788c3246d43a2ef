/** The edges of Terms 3 on PAGES and the WARDER, of FRACTIONS, and of promises 3, 4 and 38 to 45, sentence by sentence. */
public final class EdgesOfPagesTest {
    private static final Check c = new Check("EdgesOfPagesTest");
    private static final int LEAST = Integer.MIN_VALUE;
    private static final int MOST = Integer.MAX_VALUE;

    public static void main(String[] args) {
        kept();
        keptNone();
        fits();
        fitsWhole();
        fitsAsEmpty();
        fitsFewest();
        fitsNot();
        fitSet();
        caught();
        caughtWhere();
        riskDays();
        riskAsItIs();
        hide();
        hideEnough();
        hideFewest();
        game();
        gameZero();
        gameNone();
        mix();
        mixZero();
        mixShut();
        fractions();
        topAndBottom();
        c.end();
    }

    private static void kept() {
        c.says("Terms 3", "KEPT: a PAGE for what is to come: that, not SHUT, with the most FREE, of several the first.");
        MarginPlan x = Check.with("cell a pricks 1;secret s letters 2;page p room 8;page q room 9;page r room 9;page t room 9;knows a s;");
        c.fine(x, "of three the first", x.kept(), 1);
        x.damp(1, true);
        c.fine(x, "not SHUT: of two the first", x.kept(), 2);
        x.damp(1, false);
        x.damp(0, true);
        x.turn(1);
        c.fine(x, "one less FREE on q", x.kept(), 2);
        x.damp(2, true);
        x.damp(3, true);
        x.damp(0, false);
        c.fine(x, "8 FREE on p and q: the first", x.kept(), 0);
        x.turn(1);
        c.fine(x, "one more on q is less FREE", x.kept(), 0);
        x.rub(1);
        c.fine(x, "rubbed out", x.kept(), 1);
        MarginPlan full = Check.with("cell a;secret s letters 2;page p room 2;page q room 0;knows a s;");
        full.turn(1);
        c.fine(full, "with nothing FREE the first", full.kept(), 0);
        full.damp(0, true);
        c.fine(full, "the last that is open", full.kept(), 1);
    }

    private static void keptNone() {
        c.says("Promise 38", "KEPT (8: no PAGE is open).");
        MarginPlan x = Check.with(Texts.pages(6, 5));
        for (int page = 0; page < 6; page++) {
            c.fine(x, "open from there on", x.kept(), page);
            x.damp(page, true);
        }
        c.refused(x, "all are SHUT", x.kept(), 8);
        MarginPlan none = new MarginPlan();
        c.refused(none, "there is no PAGE", none.kept(), 8);
    }

    private static void fits() {
        c.says("Promise 39", "FITS: how many PAGES (8: they do not).");
        MarginPlan x = Check.with("secret s letters 5;secret t letters 6;page p room 11;");
        c.fine(x, "just", x.fits(), 1);
        x = Check.with("secret s letters 5;secret t letters 6;page p room 10;");
        c.refused(x, "one too few", x.fits(), 8);
        x = Check.with("page p room 10;");
        c.fine(x, "no SECRETS", x.fits(), 0);
        x = new MarginPlan();
        c.fine(x, "nothing", x.fits(), 0);
        x = Check.with("secret s letters 1;");
        c.refused(x, "no PAGES", x.fits(), 8);
        x = Check.with(Texts.secrets(6, 20) + Texts.pages(6, 20));
        c.fine(x, "six to six", x.fits(), 6);
        c.fine(x, "all of them", x.fitSet(), 63);
        x = Check.with(Texts.secrets(6, 20) + Texts.pages(5, 20) + "page pz room 19;");
        c.refused(x, "one of six too small", x.fits(), 8);
        x = Check.with(Texts.secrets(6, 20) + Texts.pages(6, 60));
        c.fine(x, "three to each of two", x.fits(), 2);
        x = Check.with(Texts.secrets(6, 20) + Texts.pages(6, 59));
        c.fine(x, "two to each of three", x.fits(), 3);
    }

    private static void fitsWhole() {
        c.says("Terms 3", "on which all SECRETS have ROOM, each on one PAGE whole");
        MarginPlan x = Check.with("secret s letters 6;page p room 5;page q room 5;");
        c.refused(x, "not in two parts", x.fits(), 8);
        x = Check.with("secret s letters 4;secret t letters 4;secret u letters 4;page p room 6;page q room 6;");
        c.refused(x, "12 on 12, but none in parts", x.fits(), 8);
        x = Check.with("secret s letters 7;secret t letters 6;secret u letters 5;secret v letters 4;page p room 11;page q room 11;");
        c.fine(x, "7 and 4, 6 and 5: not as they come", x.fits(), 2);
        x = Check.with("secret s letters 3;secret t letters 5;secret u letters 2;page p room 5;page q room 5;");
        c.fine(x, "3 and 2, 5", x.fits(), 2);
        x = Check.with("secret s letters 2;secret t letters 2;secret u letters 5;secret v letters 3;page p room 3;page q room 5;page r room 4;");
        c.fine(x, "v, u, s and t: in this way alone", x.fits(), 3);
        x = Check.with("secret s letters 2;secret t letters 2;secret u letters 5;secret v letters 3;page p room 4;page q room 5;page r room 3;");
        c.fine(x, "s and t, u, v: in this way alone", x.fits(), 3);
    }

    private static void fitsAsEmpty() {
        c.says("Terms 3", "(as they are now, with nothing on them, SHUT ones, too)");
        MarginPlan x = Check.with("cell a pricks 20;secret s letters 5;secret t letters 4;page p room 9;page q room 5;knows a s;knows a t;");
        x.turn(1);
        c.fine(x, "p is full", x.page(0, 2), 0);
        c.fine(x, "it has ROOM, with nothing on it", x.fitSet(), 1);
        x.damp(0, true);
        c.fine(x, "a SHUT one, too", x.fitSet(), 1);
        x.damp(1, true);
        c.fine(x, "all are SHUT", x.fits(), 1);
    }

    private static void fitsFewest() {
        c.says("Terms 3", "FITS: the fewest PAGES");
        MarginPlan x = Check.with("secret s letters 5;secret t letters 6;page p room 5;page q room 6;page r room 11;");
        c.fine(x, "one that comes last ahead of two", x.fits(), 1);
        c.fine(x, "that", x.fitSet(), 4);
        x = Check.with(Texts.secrets(3, 4) + "page p room 4;page q room 4;page r room 4;page t room 4;page u room 8;");
        c.fine(x, "two with the last ahead of three", x.fits(), 2);
        c.fine(x, "p and u", x.fitSet(), 17);
    }

    private static void fitsNot() {
        c.says("Promise 40", "The set of FITS (8).");
        MarginPlan x = Check.with("secret s letters 5;page p room 4;page q room 4;");
        c.refused(x, "none has ROOM", x.fitSet(), 8);
        c.refused(x, "so does fits()", x.fits(), 8);
        x = Check.with("secret s letters 4;");
        c.refused(x, "no PAGES", x.fitSet(), 8);
        x = Check.with("page p room 4;");
        c.fine(x, "no SECRETS: the set of none", x.fitSet(), 0);
        x = new MarginPlan();
        c.fine(x, "nothing", x.fitSet(), 0);
    }

    private static void fitSet() {
        c.says("Terms 3", "of several sets the least as a number (1 for PAGE 0 ..)");
        MarginPlan x = Check.with("secret s letters 4;" + Texts.pages(6, 4));
        c.fine(x, "of six the first", x.fitSet(), 1);
        x = Check.with("secret s letters 4;secret t letters 4;page p room 3;page q room 4;page r room 4;page u room 4;");
        c.fine(x, "q and r (6), not q and u (10), r and u (12)", x.fitSet(), 6);
        x = Check.with("secret s letters 4;secret t letters 5;page p room 4;page q room 4;page r room 5;page u room 5;");
        c.fine(x, "p and r (5), not q and r (6), p and u (9)", x.fitSet(), 5);
        x = Check.with("secret s letters 4;page p room 0;page q room 1;page r room 2;page u room 3;page v room 3;page w room 4;");
        c.fine(x, "the sixth", x.fitSet(), 32);
    }

    private static final String THREE = "cell a pricks 4;secret s letters 4;secret t letters 4;secret u letters 4;page pa room 4;page pb room 4;page pc room 4;"
        + "knows a s;knows a t;knows a u;";

    private static void caught() {
        c.says("Promise 41", "The FRACTION is CAUGHT.");
        MarginPlan none = new MarginPlan();
        c.fraction(none, "no PAGE", none.caught(), 0, 1);
        MarginPlan x = Check.with(THREE + Texts.read(16, 4, 8));
        c.fraction(x, "no PRICKS", x.caught(), 0, 1);
        x.turn(1);
        c.fraction(x, "for sure by 16", x.caught(), 1, 1);
        x.watch(0, 0);
        c.fraction(x, "never by 0", x.caught(), 0, 1);
        x.turn(1);
        c.fraction(x, "pb alone", x.caught(), 1, 4);
        x.turn(1);
        c.fraction(x, "pb or pc", x.caught(), 5, 8);
        x.watch(0, 1);
        c.reduced(x, "each", x.caught(), 256 * 16 - 15 * 12 * 8, 256 * 16);
        x.watch(1, 16);
        c.fraction(x, "one for sure", x.caught(), 1, 1);
    }

    private static void caughtWhere() {
        c.says("Terms 3", "CAUGHT in a DAY: ODDS that the WARDER reads some PAGE, not SHUT, on which there are PRICKS.");
        MarginPlan x = Check.with("cell a pricks 1;secret s letters 4;page pa room 4;page pb room 4;knows a s;" + Texts.read(3, 8));
        x.turn(1);
        c.fraction(x, "by one PRICK", x.caught(), 3, 16);
        x.damp(0, true);
        c.fraction(x, "not on a SHUT one", x.caught(), 0, 1);
        x.turn(1);
        c.fraction(x, "on the open one", x.caught(), 1, 2);
        x.rub(1);
        c.fraction(x, "none on it any more", x.caught(), 0, 1);
        x.damp(0, false);
        c.fraction(x, "open again", x.caught(), 3, 16);
    }

    private static void riskDays() {
        c.says("Promise 42", "The FRACTION is RISK (5).");
        MarginPlan x = Check.with(THREE + Texts.read(4, 8, 0));
        x.turn(2);
        for (int days : new int[] {-1, 3, LEAST, MOST}) {
            c.refused(x, "risk(" + days + ")", x.risk(days), 5);
        }
        c.fraction(x, "the least", x.risk(0), 0, 1);
        c.fraction(x, "one, as CAUGHT", x.risk(1), 5, 8);
        c.fraction(x, "the most", x.risk(2), 64 - 9, 64);
        c.says("Terms 3", "RISK of n DAYS (0 to 2): ODDS that this happens in one of them at least, all as it is.");
        MarginPlan sure = Check.with(THREE + Texts.read(16));
        sure.turn(1);
        c.fraction(sure, "for sure, but in no DAY", sure.risk(0), 0, 1);
        c.fraction(sure, "for sure in two", sure.risk(2), 1, 1);
        MarginPlan none = new MarginPlan();
        c.fraction(none, "nothing", none.risk(2), 0, 1);
    }

    private static void riskAsItIs() {
        c.says("Terms 3", "all as it is");
        MarginPlan x = Check.with(Texts.cells(1, " pricks 20") + Texts.secrets(6, 1) + Texts.pages(6, 1) + Texts.knows('a', 6) + Texts.read(1, 1, 1, 1, 1, 1));
        x.turn(1);
        long whole = 1L << 24;
        long safe = 15L * 15 * 15 * 15 * 15 * 15;
        c.fraction(x, "six PAGES in two DAYS: the greatest there is", x.risk(2), whole * whole - safe * safe, whole * whole);
        c.fraction(x, "in one", x.risk(1), whole - safe, whole);
        c.fine(x, "the PRICKS are there", x.many(5), 6);
    }

    private static void hide() {
        c.says("Promise 43", "HIDE (2; 8: none).");
        MarginPlan x = Check.with("secret s letters 5;secret t letters 4;page p room 4;");
        for (int secret : new int[] {-1, 2, 6, LEAST, MOST}) {
            c.refused(x, "hide(" + secret + ")", x.hide(secret), 2);
        }
        c.refused(x, "none is so large", x.hide(0), 8);
        c.fine(x, "one is", x.hide(1), 0);
        x.damp(0, true);
        c.refused(x, "it is SHUT", x.hide(1), 8);
        MarginPlan none = Check.with("secret s letters 1;");
        c.refused(none, "there is no PAGE", none.hide(0), 8);
    }

    private static void hideEnough() {
        c.says("Terms 3", "HIDE: the PAGE, not SHUT, of which at least so much is FREE as a SECRET has LETTERS");
        MarginPlan x = Check.with("cell a pricks 1;secret s letters 3;secret t letters 9;page p room 4;page q room 3;page r room 2;knows a t;read q odds 9;");
        c.fine(x, "4 FREE for 3", x.hide(0), 0);
        x.turn(1);
        c.fine(x, "just 3", x.hide(0), 0);
        x.turn(1);
        c.fine(x, "but 2: just 3 on q", x.hide(0), 1);
        x.damp(1, true);
        c.refused(x, "but 2 on both", x.hide(0), 8);
    }

    private static void hideFewest() {
        c.says("Terms 3", "that is read by the fewest sixteenths, of several the first");
        MarginPlan x = Check.with("secret s letters 3;" + Texts.pages(6, 3) + Texts.read(16, 16, 15, 1, 0, 0));
        c.fine(x, "of two with 0 the first", x.hide(0), 4);
        x.damp(4, true);
        c.fine(x, "the other", x.hide(0), 5);
        x.damp(5, true);
        c.fine(x, "1", x.hide(0), 3);
        x.damp(3, true);
        c.fine(x, "15", x.hide(0), 2);
        x.damp(2, true);
        c.fine(x, "of two with 16 the first", x.hide(0), 0);
        x.damp(0, true);
        c.fine(x, "16, the most there are", x.hide(0), 1);
    }

    private static void game() {
        c.says("Promise 44", "The FRACTION is what GAME comes to (8: no PAGE is open).");
        MarginPlan x = Check.with(Texts.pages(6, 0) + Texts.read(16, 16, 16, 16, 16, 16));
        for (int page = 0; page < 5; page++) {
            c.fraction(x, "one of " + (6 - page), x.game(), 1, 6 - page);
            x.damp(page, true);
        }
        c.fraction(x, "one alone, for sure", x.game(), 1, 1);
        x.watch(5, 1);
        c.fraction(x, "one alone by 1", x.game(), 1, 16);
        c.says("Terms 3", "GAME: a prisoner hides on one PAGE that is not SHUT, the WARDER looks at one; he finds him by its sixteenths, if it is the same:"
            + " the ODDS that he is found, if both choose by the best ODDS there are");
        x = Check.with(Texts.pages(3, 5) + Texts.read(1, 2, 4));
        // Parts of 4, 2, 1: 4 by 7 of 1 by 16.
        c.fraction(x, "by 1, 2, 4", x.game(), 1, 28);
        MarginPlan y = Check.with(Texts.pages(6, 5) + Texts.read(16, 15, 14, 13, 11, 9));
        long sum = 720720 / 16 + 720720 / 15 + 720720 / 14 + 720720 / 13 + 720720 / 11 + 720720 / 9;
        c.reduced(y, "by six that have little in common", y.game(), 720720, 16 * sum);
    }

    private static void gameZero() {
        c.says("Terms 3", "0 if one PAGE has 0)");
        MarginPlan x = Check.with(Texts.pages(3, 5) + Texts.read(16, 0, 8));
        c.fraction(x, "one has 0", x.game(), 0, 1);
        x.watch(1, 1);
        c.fraction(x, "1", x.game(), 1, 19);
        x.watch(1, 0);
        x.damp(1, true);
        c.fraction(x, "one that is SHUT does not count", x.game(), 1, 3);
        x.damp(0, true);
        x.damp(2, true);
        x.damp(1, false);
        c.fraction(x, "it alone", x.game(), 0, 1);
    }

    private static void gameNone() {
        c.says("Promise 44", "(8: no PAGE is open)");
        MarginPlan x = Check.with(Texts.pages(2, 5) + Texts.read(16, 0));
        x.damp(0, true);
        x.damp(1, true);
        c.refused(x, "all are SHUT", x.game(), 8);
        MarginPlan none = new MarginPlan();
        c.refused(none, "there is none", none.game(), 8);
    }

    private static void mix() {
        c.says("Promise 45", "The FRACTION is MIX (2; 9: it is SHUT).");
        MarginPlan x = Check.with(Texts.pages(3, 5) + Texts.read(1, 2, 16));
        for (int page : new int[] {-1, 3, LEAST, MOST}) {
            c.refused(x, "mix(" + page + ")", x.mix(page), 2);
        }
        c.fraction(x, "16 of 25", x.mix(0), 16, 25);
        c.fraction(x, "8 of 25", x.mix(1), 8, 25);
        c.fraction(x, "1 of 25", x.mix(2), 1, 25);
    }

    private static void mixZero() {
        c.says("Terms 3", "MIX of a PAGE: the ODDS by which he takes it (of PAGES with 0 the first for sure).");
        MarginPlan x = Check.with(Texts.pages(4, 5) + Texts.read(8, 0, 8, 0));
        int[] sure = {0, 1, 0, 0};
        for (int page = 0; page < 4; page++) {
            c.fraction(x, "PAGE " + page, x.mix(page), sure[page], 1);
        }
        x.damp(1, true);
        c.fraction(x, "the first that is open", x.mix(3), 1, 1);
        c.fraction(x, "no other", x.mix(0), 0, 1);
        x.damp(3, true);
        c.fraction(x, "none with 0 is open", x.mix(0), 1, 2);
        x.damp(0, true);
        c.fraction(x, "one alone", x.mix(2), 1, 1);
    }

    private static void mixShut() {
        c.says("Promise 45", "9: it is SHUT");
        MarginPlan x = Check.with(Texts.pages(2, 5) + Texts.read(0, 4));
        x.damp(0, true);
        c.refused(x, "with 0", x.mix(0), 9);
        c.fraction(x, "the other", x.mix(1), 1, 1);
        x.damp(1, true);
        c.refused(x, "all are SHUT", x.mix(1), 9);
        x.damp(1, false);
        c.fraction(x, "open again", x.mix(1), 1, 1);
    }

    private static void fractions() {
        c.says("Terms 4", "FRACTIONS are told by top() and bottom() without a common divisor, the bottom above 0; 0 is 0 by 1.");
        MarginPlan x = Check.with("cell a;secret s letters 3;page p room 3;knows a s;");
        x.turn(1);
        for (int odds = 0; odds <= 16; odds++) {
            x.watch(0, odds);
            c.reduced(x, "CAUGHT by " + odds, x.caught(), odds, 16);
            c.reduced(x, "RISK by " + odds, x.risk(2), 256 - (16 - odds) * (16 - odds), 256);
            c.reduced(x, "GAME by " + odds, x.game(), odds, 16);
        }
        x.watch(0, 0);
        c.fraction(x, "0", x.risk(2), 0, 1);
    }

    private static void topAndBottom() {
        c.says("Promise 3", "The top of the FRACTION told latest.");
        MarginPlan x = Check.with("cell a;secret s letters 3;page p room 3;page q room 3;knows a s;read p odds 6;read q odds 2;");
        x.turn(1);
        c.fraction(x, "caught", x.caught(), 3, 8);
        x.risk(3);
        x.risk(-1);
        x.mix(2);
        x.mean(0, 0, 1);
        x.fits();
        x.back();
        c.due("refused ones do not count", x.top(), 3);
        c.says("Promise 4", "Its bottom, above 0.");
        c.due("refused ones do not count", x.bottom(), 8);
        c.fraction(x, "mix", x.mix(0), 1, 4);
        x.mark();
        c.fraction(x, "game", x.game(), 3, 32);
        x.back();
        c.due("it is not taken back", x.top() * 100 + x.bottom(), 332);
        Check.book(x, "cell a;");
        c.due("nor gone by a BOOK", x.top() * 100 + x.bottom(), 332);
        x.game();
        x.mix(0);
        c.due("nor by refused ones", x.top() * 100 + x.bottom(), 332);
        c.fraction(x, "0 by 1", x.caught(), 0, 1);
    }
}
