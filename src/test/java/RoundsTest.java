/** Promises 11 and 49 to 51: ROUNDS, LIVED by a seed. */
public final class RoundsTest {
    private static final Check c = new Check("RoundsTest");
    private static final String BOOK = "cell ann pricks 4; cell bob pricks 3; cell cid pricks 2; secret door letters 5; secret day letters 3;"
        + "page one room 9; page two room 5; knows ann door; knows cid day; order ann bob; read one odds 8; read two odds 16;";

    public static void main(String[] args) {
        taking();
        faults();
        twoFaults();
        tooManySteps();
        tooDeep();
        statuses();
        steps();
        missed();
        turnsMissed();
        tests();
        loops();
        stopping();
        threeHundred();
        warder();
        draws();
        livedStays();
        mean();
        c.end();
    }

    private static void taking() {
        MarginPlan x = Check.with(BOOK);
        c.fine(x, "none", Check.rounds(x, ""), 0);
        c.fine(x, "blanks", Check.rounds(x, " \n "), 0);
        c.fine(x, "one", Check.rounds(x, "stop;"), 1);
        c.fine(x, "each", Check.rounds(x, "turn 99;ill ann;move ann bob;rub one;damp two;warder;when knows ann day;end;when full one;end;"
            + "when all door;end;loop 99;end;stop;"), 11);
        c.due("fault(0)", x.fault(0), 0);
        c.due("fault(1)", x.fault(1), -1);
        c.fine(x, "nested", Check.rounds(x, "loop 1;when full one;loop 2;stop;end;stop;end;stop;end;stop;"), 7);
        c.fine(x, "without blanks", Check.rounds(x, "turn1;turn 0001;"), 2);
        c.roundsFault(x, "go", 2, 0);
        c.fine(x, "the old ones stay", x.live(0), 2);
        c.refused(x, "the tape is empty", x.rounds(1), 5);
    }

    private static void faults() {
        MarginPlan x = Check.with(BOOK);
        c.roundsFault(x, "!", 1, 0);
        c.roundsFault(x, "turn 12345;", 1, 5);
        c.roundsFault(x, "stop; Stop;", 1, 6);
        c.roundsFault(x, "cell a;", 2, 0);
        c.roundsFault(x, "knows ann door;", 2, 0);
        c.roundsFault(x, "full one; end;", 2, 0);
        c.roundsFault(x, "all door; end;", 2, 0);
        c.roundsFault(x, "5", 2, 0);
        c.roundsFault(x, ";", 2, 0);
        c.roundsFault(x, "stop", 2, 4);
        c.roundsFault(x, "stop  ", 2, 6);
        c.roundsFault(x, "stop 1;", 2, 5);
        c.roundsFault(x, "turn ann;", 2, 5);
        c.roundsFault(x, "turn;", 2, 4);
        c.roundsFault(x, "loop;", 2, 4);
        c.roundsFault(x, "turn 5 5;", 2, 7);
        c.roundsFault(x, "ill 5;", 2, 4);
        c.roundsFault(x, "ill ann bob;", 2, 8);
        c.roundsFault(x, "ill stop;", 2, 4);
        c.roundsFault(x, "ill abcdefghi;", 2, 4);
        c.roundsFault(x, "move ann;", 2, 8);
        c.roundsFault(x, "move ann bob cid;", 2, 13);
        c.roundsFault(x, "rub;", 2, 3);
        c.roundsFault(x, "warder one;", 2, 7);
        c.roundsFault(x, "when ann door; end;", 2, 5);
        c.roundsFault(x, "when stop; end;", 2, 5);
        c.roundsFault(x, "when 5; end;", 2, 5);
        c.roundsFault(x, "when ! end;", 1, 5);
        c.roundsFault(x, "when full one end;", 2, 14);
        c.roundsFault(x, "when knows ann; end;", 2, 14);
        c.roundsFault(x, "when full one two; end;", 2, 14);
        c.roundsFault(x, "when all", 2, 8);
        c.roundsFault(x, "when", 2, 4);
        c.roundsFault(x, "ill eve;", 3, 4);
        c.roundsFault(x, "ill one;", 3, 4);
        c.roundsFault(x, "ill door;", 3, 4);
        c.roundsFault(x, "move eve ann;", 3, 5);
        c.roundsFault(x, "move ann eve;", 3, 9);
        c.roundsFault(x, "move ann one;", 3, 9);
        c.roundsFault(x, "rub ann;", 3, 4);
        c.roundsFault(x, "damp door;", 3, 5);
        c.roundsFault(x, "when knows door ann; end;", 3, 11);
        c.roundsFault(x, "when knows ann one; end;", 3, 15);
        c.roundsFault(x, "when full door; end;", 3, 10);
        c.roundsFault(x, "when all one; end;", 3, 9);
        c.roundsFault(x, "turn 0;", 4, 5);
        c.roundsFault(x, "turn 100;", 4, 5);
        c.roundsFault(x, "loop 0; end;", 4, 5);
        c.roundsFault(x, "loop 100; end;", 4, 5);
        c.roundsFault(x, "ill eve; turn 0; !", 3, 4);
    }

    private static void twoFaults() {
        MarginPlan x = Check.with(BOOK);
        c.roundsFault(x, "end;", 2, 0);
        c.roundsFault(x, "loop 1; end; end;", 2, 13);
        c.roundsFault(x, "loop 1;", 2, 7);
        c.roundsFault(x, "loop 1; stop; ", 2, 14);
        c.roundsFault(x, "loop 1; when full one; end;", 2, 27);
        c.roundsFault(x, "loop 1; end", 2, 11);
        c.roundsFault(x, "loop 1; end end;", 2, 12);
        c.roundsFault(x, "loop 1; end stop;", 2, 12);
    }

    private static void tooManySteps() {
        MarginPlan x = Check.with(BOOK);
        c.fine(x, "thirty", Check.rounds(x, Check.times("stop;", 30)), 30);
        c.roundsFault(x, Check.times("stop;", 30) + "stop", 6, 150);
        c.fine(x, "end is none", Check.rounds(x, "loop 1;" + Check.times("stop;", 29) + "end;"), 30);
        c.roundsFault(x, Check.times("stop;", 30) + "end;", 2, 150);
        c.roundsFault(x, Check.times("stop;", 30) + "go;", 2, 150);
        c.roundsFault(x, Check.times("stop;", 30) + "!", 1, 150);
        c.roundsFault(x, "loop 1;loop 1;loop 1;" + Check.times("stop;", 27) + "loop 1;", 6, 156);
        c.roundsFault(x, Check.times("stop;", 30) + " when ", 6, 151);
        c.fine(x, "thirty with thirty ends", Check.rounds(x, Check.times("loop 9;end;", 27)), 27);
    }

    private static void tooDeep() {
        MarginPlan x = Check.with(BOOK);
        c.fine(x, "three", Check.rounds(x, "loop 1;loop 1;loop 1;stop;end;end;end;"), 4);
        c.roundsFault(x, "loop 1;loop 1;loop 1;loop", 7, 21);
        c.roundsFault(x, "when full one;loop 1;loop 1; when", 7, 29);
        c.fine(x, "one after the other", Check.rounds(x, "loop 1;loop 1;loop 1;end;loop 1;end;end;loop 1;end;end;"), 5);
        c.roundsFault(x, "loop 1;loop 1;loop 1;end;loop 1;loop 1;", 7, 32);
    }

    private static void statuses() {
        MarginPlan x = Check.with(BOOK);
        c.refused(x, "no rounds", x.live(5), 8);
        c.refused(x, "5 ahead of 8", x.live(-1), 5);
        c.refused(x, "none was lived", x.lived(0), 8);
        c.refused(x, "5 ahead of 8", x.lived(5), 5);
        c.refused(x, "no rounds", x.mean(0, 0, 1), 8);
        Check.rounds(x, "turn 1;");
        c.refused(x, "seed -1", x.live(-1), 5);
        c.refused(x, "seed 10000", x.live(10000), 5);
        c.refused(x, "none was lived", x.lived(4), 8);
        c.fine(x, "the last seed", x.live(9999), 1);
        c.refused(x, "what -1", x.lived(-1), 5);
        c.refused(x, "what 5", x.lived(5), 5);
        c.fine(x, "turns", x.lived(1), 1);
        Check.rounds(x, "");
        c.fine(x, "rounds of nothing", x.live(0), 0);
    }

    private static void steps() {
        MarginPlan x = Check.with(BOOK);
        Check.rounds(x, "turn 3; ill bob; move ann bob; damp two;");
        c.fine(x, "steps", x.live(0), 4);
        c.fine(x, "missed", x.lived(0), 0);
        c.fine(x, "turns", x.lived(1), 3);
        c.fine(x, "made", x.lived(2), 5);
        c.fine(x, "rubbed", x.lived(3), 0);
        c.fine(x, "left", x.lived(4), 0);
        c.fine(x, "it stays so", x.many(4), 3);
        c.fine(x, "ill", x.many(7), 2);
        c.fine(x, "shut", x.many(8), 2);
        c.fine(x, "moved", x.orderAt(0), 1);
        c.fine(x, "pricks", x.pricks(0, 0), 5);
        c.fine(x, "again", x.live(0), 4);
        c.fine(x, "turns of this alone", x.lived(1), 3);
        c.fine(x, "made in this alone", x.lived(2), 0);
        c.fine(x, "well", x.many(7), 0);
        c.fine(x, "dry", x.many(8), 0);
        c.fine(x, "moved", x.orderAt(0), 0);
        c.fine(x, "turns", x.many(4), 6);
        Check.rounds(x, "rub one; turn 1;");
        c.fine(x, "rub", x.live(0), 2);
        c.fine(x, "none was missed", x.lived(0), 0);
        c.fine(x, "rub is not the warder's", x.lived(3), 0);
        c.fine(x, "pricked anew", x.many(5), 4);
        c.fine(x, "made", x.many(6), 9);
    }

    private static void missed() {
        MarginPlan x = Check.with(BOOK);
        Check.rounds(x, "move ann ann; move ann cid; move cid bob; rub one; rub two; warder; move ann bob;");
        c.fine(x, "steps", x.live(0), 7);
        c.fine(x, "missed", x.lived(0), 6);
        c.fine(x, "moved", x.orderAt(0), 1);
        c.fine(x, "once more", x.live(0), 7);
        c.fine(x, "missed anew", x.lived(0), 6);
    }

    private static void turnsMissed() {
        MarginPlan x = Check.with(BOOK);
        // 9,801, 9,900, 9,998; then 99 and 2 would be too many, and 1 behind the last.
        Check.rounds(x, "loop 99; turn 99; end; turn 99; turn 98; turn 99; turn 2; turn 1; turn 1;");
        c.fine(x, "steps", x.live(0), 106);
        c.fine(x, "missed", x.lived(0), 3);
        c.fine(x, "turns", x.lived(1), 9999);
        c.fine(x, "the turns then", x.many(4), 9999);
        x = Check.with(BOOK);
        Check.rounds(x, "loop 99; turn 99; end; turn 99; turn 97; turn 3; turn 2;");
        x.turn(1);
        c.fine(x, "steps", x.live(0), 104);
        c.fine(x, "what would be too many is missed whole", x.many(4), 9998);
        c.fine(x, "missed", x.lived(0), 2);
        c.fine(x, "turns", x.lived(1), 9997);
    }

    private static void tests() {
        MarginPlan x = Check.with(BOOK);
        Check.rounds(x, "when knows ann door; damp one; end; when knows ann day; damp two; end;");
        c.fine(x, "steps", x.live(0), 3);
        c.fine(x, "shut", x.many(8), 1);
        x = Check.with(BOOK);
        Check.rounds(x, "when full two; stop; end; damp one; turn 4; when full two; damp one; end; when full one; stop; end; ill ann;");
        c.fine(x, "steps", x.live(0), 7);
        c.fine(x, "open", x.many(8), 0);
        c.fine(x, "ill", x.many(7), 1);
        x = Check.with("cell a; cell b; cell d blind; secret s letters 3; secret t letters 2; page p room 4; page q room 0; knows a s;");
        Check.rounds(x, "when all s; stop; end; turn 2; when all t; stop; end; when all s; ill d; end; when full q; ill a; end; when full p; ill b; end;");
        c.fine(x, "steps", x.live(0), 8);
        c.fine(x, "ill", x.many(7), 5);
        x = Check.with("secret s letters 3; cell d blind; page p room 1;");
        Check.rounds(x, "when all s; damp p; end;");
        c.fine(x, "nobody sees", x.live(0), 2);
    }

    private static void loops() {
        MarginPlan x = Check.with(BOOK);
        Check.rounds(x, "loop 3; damp one; loop 2; turn 1; end; end; ill ann;");
        // 1 and 3 times (damp, loop, turn, turn) and ill.
        c.fine(x, "steps", x.live(0), 14);
        c.fine(x, "turns", x.lived(1), 6);
        c.fine(x, "shut", x.many(8), 1);
        c.fine(x, "ill", x.many(7), 1);
        Check.rounds(x, "loop 99; end; loop 99; loop 99; end; end;");
        c.fine(x, "empty ones", x.live(0), 101);
        Check.rounds(x, "loop 5; when knows bob day; stop; end; turn 1; end;");
        c.fine(x, "a when in a loop", x.live(0), 11);
        Check.rounds(x, "when full one; loop 3; stop; end; end; damp two;");
        c.fine(x, "all of it is passed", x.live(0), 2);
        Check.rounds(x, "loop 1; turn 1; end;");
        c.fine(x, "once", x.live(0), 2);
    }

    private static void stopping() {
        MarginPlan x = Check.with(BOOK);
        Check.rounds(x, "loop 9; turn 1; stop; turn 1; end; turn 1;");
        c.fine(x, "steps", x.live(0), 3);
        c.fine(x, "turns", x.lived(1), 1);
        c.fine(x, "nothing was left by the 300", x.lived(4), 0);
        Check.rounds(x, "loop 1; loop 99; damp one; damp two; damp one; end; turn 1; stop; turn 1; end;");
        c.fine(x, "the 300th but no more", x.live(0), 300);
        c.fine(x, "a step was left", x.lived(4), 1);
        Check.rounds(x, "loop 99; damp one; damp two; damp one; end; turn 1; stop; turn 1;");
        c.fine(x, "a stop the 300th", x.live(0), 300);
        c.fine(x, "nothing was left by the 300", x.lived(4), 0);
    }

    private static void threeHundred() {
        MarginPlan x = Check.with(BOOK);
        Check.rounds(x, "loop 99; damp one; damp two; damp one; end; turn 1; turn 1;");
        c.fine(x, "just 300", x.live(0), 300);
        c.fine(x, "none left", x.lived(4), 0);
        c.fine(x, "turns", x.lived(1), 2);
        Check.rounds(x, "loop 99; damp one; damp two; damp one; end; turn 1; turn 1; turn 1;");
        c.fine(x, "300", x.live(0), 300);
        c.fine(x, "one left", x.lived(4), 1);
        c.fine(x, "turns", x.lived(1), 2);
        Check.rounds(x, "loop 1; loop 13; loop 23; end; end; end; loop 50; loop 50; damp one; end; end;");
        c.fine(x, "300", x.live(0), 300);
        c.fine(x, "left", x.lived(4), 1);
        // The 300th is the last STEP; but ends come behind it.
        Check.rounds(x, "loop 13; loop 22; damp one; end; end;");
        c.fine(x, "just 300", x.live(0), 300);
        c.fine(x, "none left", x.lived(4), 0);
        Check.rounds(x, "loop 14; loop 22; damp one; end; end;");
        c.fine(x, "300", x.live(0), 300);
        c.fine(x, "left", x.lived(4), 1);
        Check.rounds(x, "loop 99; damp one; damp two; damp one; end; turn 1; loop 99; end;");
        c.fine(x, "an empty loop is the 300th", x.live(0), 300);
        c.fine(x, "none left", x.lived(4), 0);
        Check.rounds(x, "loop 99; damp one; damp two; damp one; end; turn 1; loop 99; when full one; end; end;");
        c.fine(x, "one in it is left", x.live(0), 300);
        c.fine(x, "left", x.lived(4), 1);
        Check.rounds(x, "loop 99; damp one; damp two; damp one; end; turn 1; when knows bob day; turn 1; end;");
        c.fine(x, "what does not hold has nothing left", x.live(0), 300);
        c.fine(x, "none left", x.lived(4), 0);
        Check.rounds(x, "loop 99; damp one; damp two; damp one; end; turn 1; when knows ann door; turn 1; end;");
        c.fine(x, "what holds has", x.live(0), 300);
        c.fine(x, "left", x.lived(4), 1);
    }

    private static void warder() {
        MarginPlan x = Check.with(BOOK);
        x.watch(0, 16);
        Check.rounds(x, "turn 1; warder; warder; turn 2; damp one; warder; damp one; warder;");
        c.fine(x, "steps", x.live(77), 8);
        // 4 by ann; then 3 + ann's 4 less: turn 2 is bob (knows nothing), turn 3 is ann.
        c.fine(x, "rubbed", x.lived(3), 8);
        c.fine(x, "missed: nothing there, shut", x.lived(0), 2);
        c.fine(x, "nothing there", x.many(5), 0);
        c.fine(x, "made", x.lived(2), 8);
        Check.rounds(x, "warder;");
        c.fine(x, "once more", x.live(77), 1);
        c.fine(x, "rubbed anew", x.lived(3), 0);
        x = Check.with(BOOK);
        x.watch(0, 0);
        Check.rounds(x, "turn 1; loop 99; warder; end;");
        x.live(5);
        c.fine(x, "never read", x.lived(3), 0);
        c.fine(x, "missed", x.lived(0), 99);
    }

    /** The draws, by hand: each open PAGE has one, with PRICKS or without. */
    private static void draws() {
        String text = "cell a pricks 1; secret s letters 1; page p room 1; page q room 5; page r room 5; knows a s;"
            + "read p odds 0; read q odds 16; read r odds 7;";
        for (int seed = 0; seed < 10000; seed += 487) {
            MarginPlan x = Check.with(text);
            x.damp(0, true);
            x.damp(1, true);
            x.turn(1);
            x.damp(0, false);
            Check.rounds(x, "warder;");
            // p and r are open: p has the first draw, r the second.
            int s = (seed * 2969 + 10651) % 65536;
            s = (s * 2969 + 10651) % 65536;
            boolean gone = s / 8 % 16 < 7;
            c.fine(x, "live", x.live(seed), 1);
            c.fine(x, "rubbed by seed " + seed, x.lived(3), gone ? 1 : 0);
            c.fine(x, "missed by seed " + seed, x.lived(0), gone ? 0 : 1);
            c.fine(x, "on r by seed " + seed, x.pricks(2, 0), gone ? 0 : 1);
        }
    }

    private static void livedStays() {
        MarginPlan x = Check.with(BOOK);
        Check.rounds(x, "turn 9; rub two;");
        c.fine(x, "live", x.live(3), 2);
        x.live(-1);
        x.mean(0, 0, 3);
        x.mark();
        x.back();
        c.fine(x, "turns", x.lived(1), 9);
        Check.book(x, "");
        x.live(0);
        c.fine(x, "turns", x.lived(1), 9);
        c.fine(x, "missed", x.lived(0), 1);
    }

    private static void mean() {
        MarginPlan x = Check.with("cell a pricks 9; cell b; secret s letters 3; secret t letters 3; page p room 9; page q room 9;"
            + "knows a s; knows a t; read p odds 8;");
        Check.rounds(x, "turn 1; warder; turn 1;");
        c.refused(x, "cell 2", x.mean(2, 0, 1), 2);
        c.refused(x, "cell -1", x.mean(-1, -1, 1), 2);
        c.refused(x, "seed -1", x.mean(0, -1, 1), 5);
        c.refused(x, "seed 10000", x.mean(0, 10000, 1), 5);
        c.refused(x, "many 0", x.mean(0, 0, 0), 5);
        c.refused(x, "many 21", x.mean(0, 0, 21), 5);
        c.refused(x, "the last above", x.mean(0, 9980, 21), 5);
        c.refused(x, "the last above", x.mean(0, 9981, 20), 5);
        c.refused(x, "far above", x.mean(0, 9999, Integer.MAX_VALUE), 5);
        c.fraction(x, "a", x.mean(0, 9980, 20), 2, 1);
        c.fraction(x, "the last seed", x.mean(0, 9999, 1), 2, 1);
        int sum = 0;
        for (int seed = 30; seed < 50; seed++) {
            int s = (seed * 2969 + 10651) % 65536;
            sum += s / 8 % 16 < 8 ? 0 : 2;
        }
        c.fine(x, "mean", x.mean(1, 30, 20));
        c.due("top by bottom", x.top() * 20, x.bottom() * sum);
        c.fine(x, "all stays", x.many(4), 0);
        c.refused(x, "none was lived", x.lived(0), 8);
        x.live(30);
        x.rub(0);
        Check.rounds(x, "stop;");
        c.fine(x, "mean of what is", x.mean(1, 0, 1));
        c.due("of one", x.top(), Integer.bitCount(x.cell(1, 3)));
        c.due("by 1", x.bottom(), 1);
        Check.book(x, "cell a;");
        c.refused(x, "no rounds", x.mean(0, 0, 1), 8);
    }
}
