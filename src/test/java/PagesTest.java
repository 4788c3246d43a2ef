/** Promises 38 to 45: PAGES, the WARDER. */
public final class PagesTest {
    private static final Check c = new Check("PagesTest");

    public static void main(String[] args) {
        kept();
        fits();
        fitsAsIfEmpty();
        caught();
        risk();
        hide();
        game();
        mix();
        fractionStays();
        c.end();
    }

    private static void kept() {
        MarginPlan x = Check.with("cell a pricks 4; secret s letters 4; page p room 5; page q room 9; page r room 9; knows a s;");
        c.fine(x, "of several the first", x.kept(), 1);
        x.damp(1, true);
        c.fine(x, "not a shut one", x.kept(), 2);
        x.damp(0, true);
        x.damp(1, false);
        x.turn(1);
        c.fine(x, "the most free", x.kept(), 2);
        x.damp(1, true);
        x.damp(2, true);
        c.refused(x, "none is open", x.kept(), 8);
        MarginPlan full = Check.with("page p room 0;");
        c.fine(full, "with nothing free", full.kept(), 0);
        MarginPlan none = Check.with("");
        c.refused(none, "no page", none.kept(), 8);
    }

    private static void fits() {
        MarginPlan x = Check.with("secret s letters 5; secret t letters 6; secret u letters 7;"
            + "page p room 6; page q room 12; page r room 5; page v room 13; page w room 11;");
        c.fine(x, "two pages", x.fits(), 2);
        // 12 with 5 or 6, 13 with 12 and 11: p and q are too small (7 and 5 in 12, 6 in 6): they do.
        c.fine(x, "p and q", x.fitSet(), 3);
        x = Check.with("secret s letters 5; secret t letters 6; secret u letters 7;"
            + "page p room 5; page q room 12; page r room 5; page v room 13; page w room 11;");
        // 13 has t and u, and s is on p; q has s and u, but t has no room on p.
        c.fine(x, "p and v", x.fitSet(), 9);
        x = Check.with("secret s letters 5; secret t letters 6; page p room 10; page q room 10; page r room 11;");
        c.fine(x, "one page", x.fits(), 1);
        c.fine(x, "r", x.fitSet(), 4);
        x = Check.with("secret s letters 5; secret t letters 6; page p room 10; page q room 5; page r room 5;");
        c.fine(x, "two pages", x.fits(), 2);
        c.fine(x, "p and q", x.fitSet(), 3);
        x = Check.with("secret s letters 5; secret t letters 6; page p room 5; page q room 5; page r room 5;");
        c.refused(x, "they do not fit", x.fits(), 8);
        c.refused(x, "they do not fit", x.fitSet(), 8);
        x = Check.with("secret s letters 5; secret t letters 6; page p room 10;");
        c.refused(x, "each is whole on one", x.fits(), 8);
        x = Check.with("page p room 10;");
        c.fine(x, "no secrets", x.fits(), 0);
        c.fine(x, "no secrets", x.fitSet(), 0);
        x = Check.with("secret s letters 5;");
        c.refused(x, "no pages", x.fits(), 8);
        // Six to six: only one way to lay them.
        x = Check.with("secret a letters 20; secret b letters 19; secret c letters 18; secret d letters 17; secret e letters 16; secret f letters 15;"
            + "page g room 15; page h room 16; page i room 17; page j room 18; page k room 19; page l room 20;");
        c.fine(x, "six pages", x.fits(), 6);
        c.fine(x, "all", x.fitSet(), 63);
        x = Check.with("secret a letters 20; secret b letters 20; secret c letters 20; secret d letters 20; secret e letters 20; secret f letters 20;"
            + "page g room 59; page h room 60; page i room 39; page j room 40; page k room 60; page l room 20;");
        c.fine(x, "two pages", x.fits(), 2);
        c.fine(x, "h and k", x.fitSet(), 18);
    }

    private static void fitsAsIfEmpty() {
        MarginPlan x = Check.with("cell a pricks 9; secret s letters 5; secret t letters 4; page p room 9; page q room 5; knows a s;");
        x.turn(1);
        x.damp(0, true);
        c.fine(x, "with nothing on them, shut ones, too", x.fits(), 1);
        c.fine(x, "p", x.fitSet(), 1);
    }

    private static void caught() {
        MarginPlan x = Check.with("cell a pricks 4; secret s letters 4; secret t letters 4; secret u letters 4; page p room 4; page q room 4;"
            + "page r room 4; knows a s; knows a t; knows a u; read p odds 4; read q odds 8; read r odds 16;");
        c.fraction(x, "nothing there", x.caught(), 0, 1);
        x.turn(1);
        c.fraction(x, "p", x.caught(), 1, 4);
        x.turn(1);
        c.fraction(x, "p or q", x.caught(), 5, 8);
        x.turn(1);
        c.fraction(x, "for sure", x.caught(), 1, 1);
        x.damp(2, true);
        x.damp(0, true);
        c.fraction(x, "q", x.caught(), 1, 2);
        x.watch(1, 0);
        c.fraction(x, "never", x.caught(), 0, 1);
        x.watch(1, 5);
        c.fraction(x, "by 5", x.caught(), 5, 16);
        x.rub(1);
        c.fraction(x, "rubbed out", x.caught(), 0, 1);
    }

    private static void risk() {
        MarginPlan x = Check.with("cell a pricks 20; secret s letters 1; secret t letters 1; secret u letters 1; secret v letters 1; secret w letters 1;"
            + "secret z letters 1; page p room 1; page q room 1; page r room 1; page k room 1; page l room 1; page m room 1;"
            + "knows a s; knows a t; knows a u; knows a v; knows a w; knows a z;"
            + "read p odds 1; read q odds 1; read r odds 1; read k odds 1; read l odds 1; read m odds 1;");
        c.refused(x, "risk(-1)", x.risk(-1), 5);
        c.refused(x, "risk(3)", x.risk(3), 5);
        x.turn(1);
        c.fine(x, "all full", x.many(5), 6);
        c.fraction(x, "no days", x.risk(0), 0, 1);
        long sixteen = 1L << 24;
        long fifteen = 15L * 15 * 15 * 15 * 15 * 15;
        c.fraction(x, "a day", x.risk(1), sixteen - fifteen, sixteen);
        c.fraction(x, "as caught", x.caught(), sixteen - fifteen, sixteen);
        c.fraction(x, "two days", x.risk(2), sixteen * sixteen - fifteen * fifteen, sixteen * sixteen);
        for (int page = 1; page < 6; page++) {
            x.rub(page);
        }
        x.watch(0, 8);
        c.fraction(x, "two days", x.risk(2), 3, 4);
        x.watch(0, 16);
        c.fraction(x, "two days", x.risk(2), 1, 1);
        c.fraction(x, "no days", x.risk(0), 0, 1);
    }

    private static void hide() {
        MarginPlan x = Check.with("cell a pricks 4; secret s letters 5; secret t letters 3; page p room 4; page q room 8; page r room 9; page u room 5;"
            + "knows a s; read p odds 0; read q odds 3; read r odds 3; read u odds 2;");
        c.refused(x, "hide(-1)", x.hide(-1), 2);
        c.refused(x, "hide(2)", x.hide(2), 2);
        c.fine(x, "the fewest with room", x.hide(0), 3);
        c.fine(x, "p has room for t", x.hide(1), 0);
        x.damp(3, true);
        c.fine(x, "of several the first", x.hide(0), 1);
        x.damp(0, true);
        x.turn(1);
        c.fine(x, "four free on q", x.page(1, 2), 4);
        c.fine(x, "what is free counts", x.hide(0), 2);
        c.fine(x, "three are free on q", x.hide(1), 1);
        x.watch(2, 16);
        c.fine(x, "for sure", x.hide(0), 2);
        x.damp(2, true);
        c.refused(x, "none", x.hide(0), 8);
    }

    private static void game() {
        MarginPlan x = Check.with("page p room 4; page q room 4; page r room 0; read p odds 4; read q odds 8; read r odds 16;");
        // 1 by (4 and 2 and 1): his odds are 4, 2, 1 by 7.
        c.fraction(x, "game", x.game(), 1, 7);
        x.damp(0, true);
        c.fraction(x, "q and r", x.game(), 1, 3);
        x.damp(2, true);
        c.fraction(x, "q", x.game(), 1, 2);
        x.damp(1, true);
        c.refused(x, "none is open", x.game(), 8);
        x.damp(1, false);
        x.damp(2, false);
        x.watch(2, 0);
        c.fraction(x, "never read", x.game(), 0, 1);
        x.damp(2, true);
        c.fraction(x, "that does not count if it is shut", x.game(), 1, 2);
        MarginPlan none = Check.with("");
        c.refused(none, "no page", none.game(), 8);
        MarginPlan odd = Check.with("page p room 4; page q room 4; page r room 0; page s room 3; page t room 3; page u room 3;"
            + "read p odds 16; read q odds 13; read r odds 11; read s odds 9; read t odds 7; read u odds 5;");
        // 1 by 16 times the sum of 1/16, 1/13, 1/11, 1/9, 1/7, 1/5.
        long whole = 720720;
        long sum = whole / 16 + whole / 13 + whole / 11 + whole / 9 + whole / 7 + whole / 5;
        long by = gcd(whole, 16 * sum);
        c.fraction(odd, "six", odd.game(), whole / by, 16 * sum / by);
        long part = gcd(whole / 13, sum);
        c.fraction(odd, "mix", odd.mix(1), whole / 13 / part, sum / part);
    }

    private static long gcd(long a, long b) {
        return b == 0 ? a : gcd(b, a % b);
    }

    private static void mix() {
        MarginPlan x = Check.with("page p room 4; page q room 4; page r room 0; read p odds 4; read q odds 8; read r odds 16;");
        c.refused(x, "mix(-1)", x.mix(-1), 2);
        c.refused(x, "mix(3)", x.mix(3), 2);
        c.fraction(x, "p", x.mix(0), 4, 7);
        c.fraction(x, "q", x.mix(1), 2, 7);
        c.fraction(x, "r", x.mix(2), 1, 7);
        x.damp(0, true);
        c.refused(x, "shut", x.mix(0), 9);
        c.fraction(x, "q", x.mix(1), 2, 3);
        x.damp(1, true);
        c.fraction(x, "r for sure", x.mix(2), 1, 1);
        x.damp(0, false);
        x.damp(1, false);
        x.watch(1, 0);
        x.watch(2, 0);
        c.fraction(x, "not p", x.mix(0), 0, 1);
        c.fraction(x, "q, the first with 0", x.mix(1), 1, 1);
        c.fraction(x, "not r", x.mix(2), 0, 1);
        x.damp(1, true);
        c.fraction(x, "r, as q is shut", x.mix(2), 1, 1);
    }

    private static void fractionStays() {
        MarginPlan x = Check.with("page p room 4; page q room 4; read p odds 4; read q odds 8;");
        c.fraction(x, "mix", x.mix(0), 2, 3);
        x.risk(9);
        x.mix(7);
        x.mean(0, 0, 1);
        x.kept();
        x.mark();
        c.fraction(x, "game", x.game(), 1, 6);
        x.back();
        c.due("top() is not taken back", x.top(), 1);
        c.due("bottom() is not taken back", x.bottom(), 6);
        x.damp(0, true);
        x.damp(1, true);
        x.game();
        c.due("top() stays", x.top(), 1);
        c.due("bottom() stays", x.bottom(), 6);
    }
}
