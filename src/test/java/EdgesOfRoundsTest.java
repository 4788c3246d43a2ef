/** The edges of Terms 4 on ROUNDS, and of promises 11 and 49 to 51, sentence by sentence. */
public final class EdgesOfRoundsTest {
    private static final Check c = new Check("EdgesOfRoundsTest");
    private static final int LEAST = Integer.MIN_VALUE;
    private static final int MOST = Integer.MAX_VALUE;
    private static final String BOOK = "cell a pricks 4;cell b pricks 3;cell d pricks 2;secret s letters 5;secret t letters 3;page p room 9;page q room 5;"
        + "knows a s;knows d t;order a b;read p odds 8;read q odds 16;";
    /** 298 STEPS that leave all as it is but p, which is SHUT then. */
    private static final String STEPS_298 = "loop 99;damp p;damp q;damp q;end;";

    public static void main(String[] args) {
        longestRounds();
        noneAtFirst();
        anyNumberOfSteps();
        eachStep();
        fault1();
        fault2();
        endWithoutBeginning();
        noEnd();
        fault3();
        fault3Ahead();
        fault4();
        fault6();
        endIsNone();
        fault7();
        turnNumbers();
        illOrWell();
        moveTwo();
        rubAndDamp();
        warderReads();
        warderDraws();
        turnsBeyond();
        noneOfThatStep();
        moveMissed();
        rubMissed();
        warderMissed();
        whenKnows();
        whenFull();
        whenAll();
        loopNumbers();
        stop();
        mostSteps();
        fromAhead();
        endDoesNot();
        seeds();
        staysSo();
        draws();
        live();
        liveNoRounds();
        livedWhat();
        livedLeft();
        livedLatest();
        loopsAnew();
        mean();
        meanSeeds();
        meanStatus();
        c.end();
    }

    private static MarginPlan with(String rounds) {
        return with(BOOK, rounds);
    }

    private static MarginPlan with(String book, String rounds) {
        MarginPlan x = Check.with(book);
        Check.rounds(x, rounds);
        c.due("STATUS of <" + rounds + ">", x.status(), 0);
        return x;
    }

    /** What lived() tells, one after the other. */
    private static void lived(MarginPlan x, int... due) {
        for (int what = 0; what < due.length; what++) {
            c.fine(x, "lived(" + what + ")", x.lived(what), due[what]);
        }
    }

    private static void longestRounds() {
        c.says("Terms 4", "ROUNDS are a TEXT of at most 300 bytes");
        MarginPlan x = Check.with(BOOK);
        String text = "stop;" + Check.times(" ", 290) + "stop;";
        c.fine(x, "300", Check.rounds(x, text), 2);
        c.refused(x, "301", Check.rounds(x, text + " "), 5);
        c.fine(x, "the tape is there; 300 of it", x.rounds(300), 2);
        c.roundsFault(x, text.substring(0, 299), 2, 299);
        c.roundsFault(x, text.substring(0, 299) + "!", 1, 299);
    }

    private static void noneAtFirst() {
        c.says("Terms 4", "(none at first)");
        MarginPlan x = Check.with(BOOK);
        c.refused(x, "live", x.live(0), 8);
        c.refused(x, "mean", x.mean(0, 0, 1), 8);
        MarginPlan nothing = new MarginPlan();
        c.refused(nothing, "live", nothing.live(0), 8);
        Check.rounds(x, "!");
        c.refused(x, "none by a FAULT", x.live(0), 8);
        x.rounds(1);
        c.refused(x, "none by 5", x.live(0), 8);
    }

    private static void anyNumberOfSteps() {
        c.says("Terms 4", "ROUNDS: {STEP}.");
        MarginPlan x = Check.with(BOOK);
        c.fine(x, "none", Check.rounds(x, ""), 0);
        c.fine(x, "blanks alone", Check.rounds(x, " \n "), 0);
        c.fine(x, "they are there, of no STEPS", x.live(0), 0);
        lived(x, 0, 0, 0, 0, 0);
        c.fine(x, "one", Check.rounds(x, "stop;"), 1);
        MarginPlan nothing = new MarginPlan();
        c.fine(nothing, "for a BOOK of nothing", Check.rounds(nothing, "turn 1;warder;stop;"), 3);
    }

    private static void eachStep() {
        c.says("Terms 4", "STEP: turn NUMBER ; or ill NAME ; or move NAME NAME ; or rub NAME ; or damp NAME ; or warder ; or when TEST ; {STEP} end ; or"
            + " loop NUMBER ; {STEP} end ; or stop ;");
        String[] steps = {"turn 7 ;", "ill a ;", "move a b ;", "rub p ;", "damp p ;", "warder ;", "when knows a s ; end ;", "when full p ; end ;",
            "when all s ; end ;", "loop 7 ; end ;", "stop ;"};
        for (String step : steps) {
            MarginPlan x = Check.with(BOOK);
            c.fine(x, step, Check.rounds(x, step), 1);
            c.fine(x, step + step, Check.rounds(x, step + step), 2);
            for (int at = 1; at < step.length(); at++) {
                if (step.charAt(at) == ' ') {
                    c.roundsFault(x, step.substring(0, at), 2, at);
                    c.roundsFault(x, step.substring(0, at) + " <" + step.substring(at), 2, at + 1);
                }
            }
        }
    }

    private static void fault1() {
        c.says("Terms 4", "FAULTS: 1, 2 as above");
        MarginPlan x = Check.with(BOOK);
        c.roundsFault(x, "stop; #", 1, 6);
        c.roundsFault(x, "turn 00001;", 1, 5);
        c.roundsFault(x, "loop 12345;", 1, 5);
        c.roundsFault(x, "stop 12345;", 1, 5);
        c.roundsFault(x, "ill A;", 1, 4);
    }

    private static void fault2() {
        c.says("Terms 4", "2 as above (an end without a beginning; the text's end ahead of an end: 2)");
        MarginPlan x = Check.with(BOOK);
        String[] no = {"cell", "pricks", "blind", "rubs", "secret", "letters", "page", "room", "knows", "order", "read", "odds", "full", "all", "end",
            "steps", "abcdefghi", "a", "p", "7", ";", "<", "=", ">"};
        for (String word : no) {
            c.roundsFault(x, word + " a;", 2, 0);
            c.roundsFault(x, "stop; " + word + " a;", 2, 6);
            if (!word.equals("knows") && !word.equals("full") && !word.equals("all")) {
                c.roundsFault(x, "when " + word + " s; end;", 2, 5);
            }
        }
        c.roundsFault(x, "ill abcdefghi;", 2, 4);
        c.roundsFault(x, "ill turn;", 2, 4);
        c.roundsFault(x, "turn a;", 2, 5);
        c.roundsFault(x, "stop; stop", 2, 10);
    }

    private static void endWithoutBeginning() {
        c.says("Terms 4", "an end without a beginning");
        MarginPlan x = Check.with(BOOK);
        c.roundsFault(x, "end;", 2, 0);
        c.roundsFault(x, "stop;end;", 2, 5);
        c.roundsFault(x, "loop 1;end;end;", 2, 11);
        c.roundsFault(x, "when full p;loop 1;end;end;  end", 2, 29);
    }

    private static void noEnd() {
        c.says("Terms 4", "the text's end ahead of an end: 2");
        MarginPlan x = Check.with(BOOK);
        c.roundsFault(x, "loop 1;", 2, 7);
        c.roundsFault(x, "loop 1; \n", 2, 9);
        c.roundsFault(x, "when full p;loop 1;end;", 2, 23);
        c.roundsFault(x, "loop 1;loop 1;loop 1;end;end;", 2, 29);
        c.roundsFault(x, "loop 1;end", 2, 10);
        c.roundsFault(x, "loop 1;end stop;", 2, 11);
    }

    private static void fault3() {
        c.says("Terms 4", "3 a NAME that is no such one (CELL; CELL and CELL; PAGE; CELL and SECRET; PAGE; SECRET).");
        MarginPlan x = Check.with(BOOK);
        String[] where = {"ill @;", "move @ a;", "move a @;", "rub @;", "damp @;", "when knows @ s;end;", "when knows a @;end;", "when full @;end;", "when all @;end;"};
        String[] fit = {"a", "a", "a", "p", "p", "a", "s", "p", "s"};
        for (int i = 0; i < where.length; i++) {
            for (String name : new String[] {"a", "s", "p", "zz"}) {
                String text = where[i].replace("@", name);
                if (name.equals(fit[i])) {
                    c.fine(x, text, Check.rounds(x, text), 1);
                } else {
                    c.roundsFault(x, text, 3, where[i].indexOf('@'));
                }
            }
        }
        c.fine(x, "one that is not in the ORDER is a CELL", Check.rounds(x, "move a d;ill d;"), 2);
    }

    private static void fault3Ahead() {
        c.says("Terms 1", "A BOOK that is taken is there in place of that ahead");
        MarginPlan x = Check.with(BOOK);
        Check.book(x, "cell z;");
        c.roundsFault(x, "ill a;", 3, 4);
        c.fine(x, "its own", Check.rounds(x, "ill z;"), 1);
        c.bookFault(x, "cell y;!", 1, 7);
        c.fine(x, "one with a FAULT is not", Check.rounds(x, "ill z;"), 1);
        c.roundsFault(x, "ill y;", 3, 4);
    }

    private static void fault4() {
        c.says("Terms 4", "4 a NUMBER that can't be.");
        MarginPlan x = Check.with(BOOK);
        for (String word : new String[] {"turn ", "loop "}) {
            for (String number : new String[] {"0", "0000", "100", "0100", "9999"}) {
                c.roundsFault(x, word + number + ";end;", 4, 5);
            }
        }
    }

    private static void fault6() {
        c.says("Terms 4", "6 a 31st STEP (at its WORD; end is none).");
        MarginPlan x = Check.with(BOOK);
        c.fine(x, "thirty", Check.rounds(x, Check.times("stop;", 30)), 30);
        for (String step : new String[] {"turn 1;", "ill", "move", "rub zz;", "damp", "warder", "when", "loop", "stop"}) {
            c.roundsFault(x, Check.times("stop;", 30) + " " + step, 6, 151);
        }
        c.roundsFault(x, "loop 1;loop 1;loop 1;" + Check.times("stop;", 27) + "loop 1;", 6, 156);
        c.roundsFault(x, "loop 1;" + Check.times("stop;", 29) + "stop;end;", 6, 152);
    }

    private static void endIsNone() {
        c.says("Terms 4", "end is none");
        MarginPlan x = Check.with(BOOK);
        c.fine(x, "29 in a loop, and its end", Check.rounds(x, "loop 1;" + Check.times("stop;", 29) + "end;"), 30);
        c.fine(x, "27 with 27 ends", Check.rounds(x, Check.times("loop 9;end;", 27)), 27);
        c.fine(x, "they are done", x.live(0), 27);
        c.roundsFault(x, "loop 1;end;" + Check.times("stop;", 29) + "stop;", 6, 156);
    }

    private static void fault7() {
        c.says("Terms 4", "7 a when, loop within three others (at its WORD).");
        MarginPlan x = Check.with(BOOK);
        String[] begin = {"loop 1;", "when full p;"};
        for (int kinds = 0; kinds < 16; kinds++) {
            String three = begin[kinds & 1] + begin[kinds >> 1 & 1] + begin[kinds >> 2 & 1];
            c.fine(x, "three", Check.rounds(x, three + "stop;end;end;end;"), 4);
            c.roundsFault(x, three + " " + begin[kinds >> 3], 7, three.length() + 1);
        }
        c.roundsFault(x, "loop 1;loop 1;loop 1;loop", 7, 21);
        c.roundsFault(x, "loop 1;loop 1;loop 1;when", 7, 21);
        c.fine(x, "three, and three again", Check.rounds(x, Check.times("loop 1;loop 1;loop 1;end;end;end;", 2)), 6);
        c.roundsFault(x, "loop 1;loop 1;loop 1;end;loop 1;loop 1;", 7, 32);
    }

    private static void turnNumbers() {
        c.says("Terms 4", "turn: so many (1 to 99)");
        MarginPlan x = with("turn 1;turn 99;");
        c.fine(x, "both", x.live(0), 2);
        lived(x, 0, 100);
        c.fine(x, "TURNS", x.many(4), 100);
        c.roundsFault(x, "turn 100;", 4, 5);
        c.roundsFault(x, "turn 0;", 4, 5);
    }

    private static void illOrWell() {
        c.says("Terms 4", "ill: a CELL is ILL, or WELL if it was");
        MarginPlan x = with("ill b;ill d;");
        x.ill(1, true);
        c.fine(x, "live", x.live(0), 2);
        c.fine(x, "b WELL, d ILL", x.many(7), 4);
        lived(x, 0);
        x.live(0);
        c.fine(x, "b ILL, d WELL", x.many(7), 2);
    }

    private static void moveTwo() {
        c.says("Terms 4", "move: two CELLS of the ORDER");
        MarginPlan x = with("move b a;");
        c.fine(x, "live", x.live(0), 1);
        lived(x, 0);
        c.fine(x, "b", x.orderAt(0), 1);
        c.fine(x, "a", x.orderAt(1), 0);
    }

    private static void rubAndDamp() {
        c.says("Terms 4", "rub, damp: a PAGE (DRY if it was SHUT)");
        MarginPlan x = with("turn 1;damp p;damp q;rub p;");
        x.damp(1, true);
        c.fine(x, "live", x.live(0), 4);
        c.fine(x, "p SHUT, q DRY", x.many(8), 1);
        c.fine(x, "a SHUT one is rubbed out, too", x.many(5), 0);
        lived(x, 0, 1, 4, 0, 0);
    }

    private static final String SIX = Texts.cells(1, " pricks 20") + Texts.secrets(6, 2) + Texts.pages(6, 2) + Texts.knows('a', 6);

    private static void warderReads() {
        c.says("Terms 4", "warder: PAGE by PAGE, of those not SHUT");
        MarginPlan x = with(SIX + Texts.read(16, 16, 16, 16, 16, 16), "turn 1;warder;");
        x.damp(0, true);
        x.damp(5, true);
        c.fine(x, "live", x.live(3), 2);
        c.fine(x, "8 on the four that are open", x.lived(3), 8);
        c.fine(x, "all gone", x.many(5), 0);
        x.damp(0, false);
        x.turn(1);
        x.damp(0, true);
        c.fine(x, "once more", x.live(3), 2);
        c.fine(x, "what is on a SHUT one stays", x.pricks(0, 0), 2);
    }

    private static void warderDraws() {
        c.says("Terms 4", "by a draw by 16 less than its sixteenths: what is on it is rubbed out");
        for (int seed = 0; seed < 40; seed++) {
            int draw = (seed * 2969 + 10651) % 65536 / 8 % 16;
            for (int odds = 0; odds <= 16; odds++) {
                MarginPlan x = with("cell a;secret s letters 3;page p room 3;knows a s;", "turn 1;warder;");
                x.watch(0, odds);
                c.fine(x, "live", x.live(seed), 2);
                c.fine(x, "on it by draw " + draw + ", sixteenths " + odds, x.many(5), draw < odds ? 0 : 3);
                lived(x, draw < odds ? 0 : 1, 1, 3, draw < odds ? 3 : 0, 0);
            }
        }
    }

    private static MarginPlan late(String rounds, int turns) {
        MarginPlan x = with(rounds);
        for (int i = 0; i < turns / 99; i++) {
            x.turn(99);
        }
        if (turns % 99 > 0) {
            x.turn(turns % 99);
        }
        c.due("TURNS ahead", x.many(4), turns);
        return x;
    }

    private static void turnsBeyond() {
        c.says("Terms 4", "What can't be is MISSED: TURNS beyond 9,999");
        MarginPlan x = late("turn 1;", 9998);
        c.fine(x, "the last that is", x.live(0), 1);
        lived(x, 0, 1);
        c.fine(x, "9,999", x.many(4), 9999);
        c.fine(x, "one beyond", x.live(0), 1);
        lived(x, 1, 0);
        c.fine(x, "9,999", x.many(4), 9999);
        x = late("turn 99;", 9900);
        x.live(0);
        lived(x, 0, 99);
        c.fine(x, "9,999", x.many(4), 9999);
        x = late("turn 99;", 9901);
        x.live(0);
        lived(x, 1, 0);
    }

    private static void noneOfThatStep() {
        c.says("Terms 4", "(none of that STEP is done then)");
        MarginPlan x = late("turn 3;turn 2;turn 1;", 9997);
        x.rub(0);
        x.rub(1);
        int next = x.next();
        int made = x.many(6);
        c.fine(x, "live", x.live(0), 3);
        lived(x, 2, 2);
        c.fine(x, "the two of the second", x.many(4), 9999);
        c.fine(x, "the book went on by two of two", x.next(), next);
        c.fine(x, "PRICKS by these two", x.many(6), made + x.lived(2));
        x = late("turn 2;", 9998);
        x.rub(0);
        made = x.many(6);
        next = x.next();
        x.live(0);
        lived(x, 1, 0, 0, 0, 0);
        c.fine(x, "no TURN", x.many(4), 9998);
        c.fine(x, "no PRICKS", x.many(6), made);
        c.fine(x, "the book is where it was", x.next(), next);
    }

    private static void moveMissed() {
        c.says("Terms 4", "a MOVE of a CELL that is not in the ORDER, or itself");
        for (String move : new String[] {"move a d;", "move d a;", "move d d;", "move a a;", "move b b;"}) {
            MarginPlan x = with(move);
            c.fine(x, move, x.live(0), 1);
            lived(x, 1, 0, 0, 0, 0);
            c.fine(x, "the ORDER", x.orderAt(0) * 10 + x.orderAt(1), 1);
        }
    }

    private static void rubMissed() {
        c.says("Terms 4", "a RUB of a PAGE without PRICKS");
        MarginPlan x = with("rub p;turn 1;rub q;rub p;rub p;");
        c.fine(x, "live", x.live(0), 5);
        lived(x, 3, 1, 4, 0, 0);
        MarginPlan one = with("cell a;secret s letters 1;page p room 1;knows a s;", "turn 1;rub p;rub p;");
        c.fine(one, "one PRICK is enough", one.live(0), 3);
        lived(one, 1, 1, 1, 0, 0);
    }

    private static void warderMissed() {
        c.says("Terms 4", "a warder who rubs out nothing");
        MarginPlan x = with(BOOK, "warder;turn 1;damp p;warder;damp p;warder;");
        x.watch(0, 16);
        c.fine(x, "nothing there; it is SHUT; then", x.live(0), 6);
        lived(x, 2, 1, 4, 4, 0);
        x.watch(0, 0);
        Check.rounds(x, "turn 2;warder;");
        c.fine(x, "it is never read", x.live(0), 2);
        c.fine(x, "MISSED", x.lived(0), 1);
        MarginPlan one = with("cell a;secret s letters 1;page p room 1;knows a s;read p odds 16;", "turn 1;warder;warder;");
        c.fine(one, "one PRICK is enough", one.live(0), 3);
        lived(one, 1, 1, 1, 1, 0);
        MarginPlan none = new MarginPlan();
        Check.rounds(none, "warder;");
        c.fine(none, "no PAGE", none.live(0), 1);
        lived(none, 1, 0, 0, 0, 0);
    }

    private static void whenKnows() {
        c.says("Terms 4", "TEST: knows NAME NAME, or full NAME, or all NAME.");
        MarginPlan x = with("when knows a s;damp p;end;when knows b s;damp q;end;when knows a t;damp q;end;when knows d t;ill d;end;");
        c.fine(x, "STEPS: 4, and 2 within", x.live(0), 6);
        c.fine(x, "a knows s", x.many(8), 1);
        c.fine(x, "d knows t", x.many(7), 4);
        lived(x, 0);
    }

    private static void whenFull() {
        c.says("Terms 4", "when full: nothing of a PAGE is FREE");
        MarginPlan x = with("cell a pricks 1;secret s letters 3;page p room 2;page q room 0;knows a s;", "when full p;ill a;end;when full q;damp q;end;");
        c.fine(x, "one of no ROOM is", x.live(0), 3);
        c.fine(x, "p is not", x.many(7), 0);
        x.turn(1);
        x.live(0);
        c.fine(x, "one FREE: it is not", x.many(7), 0);
        x.turn(1);
        x.damp(0, true);
        x.live(0);
        c.fine(x, "it is, a SHUT one, too", x.many(7), 1);
    }

    private static void whenAll() {
        c.says("Terms 4", "all: all CELLS that are not BLIND know that SECRET");
        String book = "cell a;cell b;cell d blind;secret s letters 3;secret t letters 3;page p room 9;knows a s;order a;";
        MarginPlan x = with(book, "when all s;damp p;end;when all t;ill a;end;");
        c.fine(x, "b does not, though it is not in the ORDER", x.live(0), 2);
        x.tell(1, 0);
        c.fine(x, "a and b; d is BLIND", x.live(0), 3);
        c.fine(x, "of s alone", x.many(7), 0);
        x.ill(1, true);
        x.tell(0, 1);
        c.fine(x, "ILL ones count", x.live(0), 3);
        MarginPlan blind = with("cell a blind;secret s letters 3;", "when all s;stop;end;");
        c.fine(blind, "all are BLIND", blind.live(0), 2);
        MarginPlan nobody = with("secret s letters 3;", "when all s;stop;end;");
        c.fine(nobody, "no CELL", nobody.live(0), 2);
    }

    private static void loopNumbers() {
        c.says("Terms 4", "loop n (1 to 99): as often");
        MarginPlan x = with("loop 1;turn 1;end;");
        c.fine(x, "once", x.live(0), 2);
        lived(x, 0, 1);
        x = with("loop 99;turn 1;end;");
        c.fine(x, "99 times", x.live(0), 100);
        lived(x, 0, 99);
        x = with("loop 2;loop 3;turn 1;end;turn 1;end;");
        c.fine(x, "in one another", x.live(0), 1 + 2 * (1 + 3 + 1));
        lived(x, 0, 8);
        x = with("loop 99;loop 99;loop 99;end;end;end;");
        c.fine(x, "of nothing, but for the 300", x.live(0), 300);
        lived(x, 0, 0, 0, 0, 1);
        x = with("loop 99;end;turn 1;");
        c.fine(x, "nothing 99 times", x.live(0), 2);
    }

    private static void stop() {
        c.says("Terms 4", "stop: no more is done");
        MarginPlan x = with("turn 1;stop;turn 1;");
        c.fine(x, "it counts", x.live(0), 2);
        lived(x, 0, 1, 4, 0, 0);
        x = with("loop 9;loop 9;when knows a s;turn 1;stop;turn 1;end;end;end;turn 1;");
        c.fine(x, "within three", x.live(0), 5);
        lived(x, 0, 1, 4, 0, 0);
        x = with("when knows b t;stop;end;turn 1;");
        c.fine(x, "if it is come to", x.live(0), 2);
        lived(x, 0, 1);
    }

    private static void mostSteps() {
        c.says("Terms 4", "At most 300 STEPS");
        MarginPlan x = with(STEPS_298 + "turn 1;turn 2;");
        c.fine(x, "just 300", x.live(0), 300);
        lived(x, 0, 3, 5, 0, 0);
        x = with(STEPS_298 + "turn 1;turn 2;turn 4;");
        c.fine(x, "301", x.live(0), 300);
        lived(x, 0, 3, 5, 0, 1);
        x = with(STEPS_298 + "turn 1;");
        c.fine(x, "299", x.live(0), 299);
        lived(x, 0, 1, 4, 0, 0);
        x = with("loop 99;move a a;rub q;warder;end;turn 1;turn 1;turn 1;");
        c.fine(x, "MISSED ones count", x.live(0), 300);
        lived(x, 297, 2, 4, 0, 1);
    }

    private static void fromAhead() {
        c.says("Terms 4", "(when, loop count as one each time they are come to from ahead; end does not)");
        MarginPlan x = with("loop 5;end;");
        c.fine(x, "a loop of nothing", x.live(0), 1);
        x = with("loop 5;loop 7;end;end;");
        c.fine(x, "the inner one is come to five times", x.live(0), 6);
        x = with("loop 5;when knows b t;stop;end;end;");
        c.fine(x, "a when that does not hold", x.live(0), 6);
        x = with("loop 5;when knows a s;end;end;");
        c.fine(x, "a when that holds, of nothing", x.live(0), 6);
        x = with("when knows b t;loop 3;stop;end;when knows a s;end;end;turn 1;");
        c.fine(x, "what is within one that does not hold is not come to", x.live(0), 2);
    }

    private static void endDoesNot() {
        c.says("Terms 4", "end does not");
        MarginPlan x = with(STEPS_298 + "turn 1;loop 99;end;");
        c.fine(x, "only ends behind the 300th", x.live(0), 300);
        lived(x, 0, 1, 4, 0, 0);
        x = with("loop 13;loop 22;turn 1;end;end;");
        c.fine(x, "ends of two loops behind the 300th", x.live(0), 300);
        lived(x, 0, 286, 5, 0, 0);
        x = with("loop 13;loop 22;turn 1;end;end;warder;");
        c.fine(x, "a STEP behind these", x.live(0), 300);
        c.fine(x, "left", x.lived(4), 1);
    }

    private static void seeds() {
        c.says("Terms 4", "LIVED by a seed (0 to 9,999)");
        MarginPlan x = with("turn 1;");
        c.fine(x, "the least", x.live(0), 1);
        c.fine(x, "the most", x.live(9999), 1);
        for (int seed : new int[] {-1, 10000, LEAST, MOST}) {
            c.refused(x, "live(" + seed + ")", x.live(seed), 5);
        }
        c.fine(x, "TURNS", x.many(4), 2);
    }

    private static void staysSo() {
        c.says("Terms 4", "all is as it becomes by it, and stays so");
        MarginPlan x = with("turn 3;ill d;move a b;damp q;");
        x.live(1);
        c.fine(x, "TURNS", x.many(4), 3);
        c.fine(x, "PRICKS", x.pricks(0, 0), 5);
        c.fine(x, "made", x.cell(0, 5), 5);
        c.fine(x, "known", x.cell(1, 3), 0);
        c.fine(x, "ILL", x.many(7), 4);
        c.fine(x, "SHUT", x.many(8), 2);
        c.fine(x, "the ORDER", x.orderAt(0), 1);
        c.fine(x, "the book", x.next(), 0);
        x.live(1);
        c.fine(x, "the ROUNDS are there to be LIVED again", x.many(4), 6);
    }

    private static void draws() {
        c.says("Terms 4", "Draws: s, at first the seed, becomes what is left of s times 2,969 and 10,651 by 65,536; the draw by n is the rest of s by 8,"
            + " rounded down, by n.");
        for (int seed : new int[] {0, 1, 18, 19, 22, 23, 5000, 9998, 9999}) {
            MarginPlan x = with(SIX + Texts.read(8, 8, 8, 8, 8, 8), "turn 1;warder;turn 1;warder;");
            x.damp(3, true);
            c.fine(x, "live", x.live(seed), 4);
            long s = seed;
            int found = 0;
            boolean[] there = {};
            int missed = 0;
            for (int warder = 0; warder < 2; warder++) {
                // Six SECRETS for five PAGES: in each TURN all these become full.
                there = new boolean[] {true, true, true, false, true, true};
                int gone = 0;
                for (int page = 0; page < 6; page++) {
                    if (page != 3) {
                        s = (s * 2969 + 10651) % 65536;
                        boolean read = s / 8 % 16 < 8;
                        gone += read ? 2 : 0;
                        there[page] &= !read;
                    }
                }
                found += gone;
                missed += gone == 0 ? 1 : 0;
            }
            c.fine(x, "found by seed " + seed, x.lived(3), found);
            c.fine(x, "MISSED by seed " + seed, x.lived(0), missed);
            for (int page = 0; page < 6; page++) {
                c.fine(x, "free of PAGE " + page + " by seed " + seed, x.page(page, 2), there[page] ? 0 : 2);
            }
        }
    }

    private static void live() {
        c.says("Promise 49", "LIVED: how many STEPS were come to, MISSED ones, too (5; 8: no ROUNDS).");
        MarginPlan x = with("move a a;turn 1;rub q;stop;turn 1;");
        c.fine(x, "two MISSED, one done, a stop", x.live(0), 4);
        lived(x, 2, 1, 4, 0, 0);
        c.refused(x, "5", x.live(10000), 5);
        lived(x, 2, 1, 4, 0, 0);
    }

    private static void liveNoRounds() {
        c.says("Promise 49", "8: no ROUNDS");
        MarginPlan x = Check.with(BOOK);
        c.refused(x, "none yet", x.live(0), 8);
        c.refused(x, "5 ahead of 8", x.live(-1), 5);
        c.refused(x, "5 ahead of 8", x.live(10000), 5);
        Check.rounds(x, "turn 1;");
        c.fine(x, "there are", x.live(0), 1);
        Check.book(x, BOOK);
        c.refused(x, "none any more, by a BOOK", x.live(0), 8);
        x.mark();
        Check.rounds(x, "turn 1;");
        x.back();
        c.refused(x, "none any more, by back()", x.live(0), 8);
        lived(x, 0, 1, 4, 0, 0);
    }

    private static void livedWhat() {
        c.says("Promise 50", "what 0: MISSED, 1: TURNS, 2: PRICKS made, 3: PRICKS rubbed out by the WARDER");
        MarginPlan x = with("turn 1;rub p;turn 2;warder;move a a;");
        x.watch(0, 16);
        x.turn(2);
        c.fine(x, "live", x.live(0), 5);
        // Ahead: 4 by a. Then a makes the fifth; all 5 are rubbed out by RUB; b nothing (it learned s? no: it stood not yet); a 4; the WARDER 4.
        lived(x, 1, 3, 1 + 4, 4, 0);
        c.says("Promise 50", "(5; 8: there was none)");
        for (int what : new int[] {-1, 5, LEAST, MOST}) {
            c.refused(x, "lived(" + what + ")", x.lived(what), 5);
        }
        MarginPlan none = with("turn 1;");
        for (int what = 0; what < 5; what++) {
            c.refused(none, "lived(" + what + ")", none.lived(what), 8);
        }
        c.refused(none, "5 ahead of 8", none.lived(5), 5);
        none.live(-1);
        none.mean(0, 0, 1);
        c.refused(none, "a refused live(), a mean() are none", none.lived(0), 8);
    }

    private static void livedLeft() {
        c.says("Promise 50", "4: 1 if a STEP was left to be done (by the 300 alone, not by stop), else 0");
        String[] rounds = {"stop;turn 1;", STEPS_298 + "turn 1;stop;turn 1;", STEPS_298 + "turn 1;turn 1;stop;", STEPS_298 + "turn 1;turn 1;",
            STEPS_298 + "turn 1;when knows b t;turn 1;end;", STEPS_298 + "turn 1;when knows a s;turn 1;end;", STEPS_298 + "turn 1;when knows a s;end;",
            STEPS_298 + "turn 1;loop 2;turn 1;end;", STEPS_298 + "loop 2;turn 1;end;", STEPS_298 + "loop 1;turn 1;end;",
            "loop 2;" + STEPS_298 + "end;", STEPS_298 + "loop 99;when knows b t;end;end;"};
        int[] steps = {1, 300, 300, 300, 300, 300, 300, 300, 300, 300, 300, 300};
        int[] left = {0, 0, 1, 0, 0, 1, 0, 1, 1, 0, 1, 1};
        for (int i = 0; i < rounds.length; i++) {
            MarginPlan x = with(rounds[i]);
            c.fine(x, "live of <" + rounds[i] + ">", x.live(0), steps[i]);
            c.fine(x, "left of <" + rounds[i] + ">", x.lived(4), left[i]);
        }
    }

    private static void livedLatest() {
        c.says("Promise 50", "Of live() latest with STATUS 0, whatever came since");
        MarginPlan x = with("turn 2;rub q;");
        x.mark();
        x.live(0);
        x.live(-1);
        x.mean(0, 0, 5);
        lived(x, 1, 2, 4, 0, 0);
        x.turn(5);
        x.back();
        lived(x, 1, 2, 4, 0, 0);
        Check.book(x, "cell z;");
        x.live(0);
        lived(x, 1, 2, 4, 0, 0);
        Check.rounds(x, "turn 7;");
        lived(x, 1, 2, 4, 0, 0);
        x.live(0);
        lived(x, 0, 7, 0, 0, 0);
        x = with("loop 99;turn 1;warder;rub q;end;turn 1;turn 1;turn 1;");
        x.watch(0, 16);
        x.live(0);
        c.due("much of all", x.lived(0) > 0 && x.lived(1) > 0 && x.lived(2) > 0 && x.lived(3) > 0 && x.lived(4) > 0, true);
        Check.rounds(x, "damp p;damp q;");
        x.live(0);
        lived(x, 0, 0, 0, 0, 0);
    }

    private static void loopsAnew() {
        c.says("Terms 4", "loop n (1 to 99): as often");
        MarginPlan x = with("loop 9;turn 1;stop;end;");
        c.fine(x, "a loop that a stop left", x.live(0), 3);
        c.fine(x, "begun anew", x.live(0), 3);
        Check.rounds(x, "when knows a s;turn 1;end;turn 2;");
        c.fine(x, "nothing of it is left where now a when stands", x.live(0), 3);
        lived(x, 0, 3);
        Check.rounds(x, "loop 99;loop 99;turn 1;end;end;");
        x.live(0);
        c.fine(x, "loops that the 300 left", x.lived(4), 1);
        Check.rounds(x, "loop 2;when knows a s;turn 1;end;end;");
        c.fine(x, "nothing of these is left", x.live(0), 5);
        lived(x, 0, 2);
    }

    private static final String SEEN = "cell a pricks 9;cell b;secret s letters 3;secret t letters 3;page p room 9;page q room 9;knows a s;knows a t;read p odds 5;";

    private static void mean() {
        c.says("Promise 51", "The FRACTION is the mean of how many SECRETS a CELL KNOWS behind the ROUNDS, by so many seeds (1 to 20) from one on"
            + " (all stays as it is)");
        MarginPlan x = with(SEEN, "turn 1;warder;turn 1;");
        for (int many = 1; many <= 20; many++) {
            int sum = 0;
            for (int seed = 100; seed < 100 + many; seed++) {
                sum += (seed * 2969 + 10651) % 65536 / 8 % 16 < 5 ? 0 : 2;
            }
            c.reduced(x, "by " + many, x.mean(1, 100, many), sum, many);
            c.reduced(x, "of one that KNOWS both, by " + many, x.mean(0, 100, many), 2, 1);
        }
        c.fine(x, "no TURNS", x.many(4), 0);
        c.fine(x, "no PRICKS", x.many(6), 0);
        c.refused(x, "nothing was LIVED", x.lived(0), 8);
        c.fine(x, "nobody learned", x.knowers(0), 1);
        MarginPlan none = with(BOOK, "");
        c.fraction(none, "of no STEPS: as it is", none.mean(1, 0, 20), 0, 1);
        c.fraction(none, "of no STEPS: as it is", none.mean(0, 0, 20), 1, 1);
    }

    private static void meanSeeds() {
        c.says("Promise 51", "5: the last above 9,999, too");
        MarginPlan x = with(SEEN, "turn 1;warder;turn 1;");
        c.fine(x, "the least seed", x.mean(1, 0, 1));
        c.fine(x, "the last seed", x.mean(1, 9999, 1));
        c.fine(x, "20 up to the last", x.mean(1, 9980, 20));
        c.fine(x, "2 up to the last", x.mean(1, 9998, 2));
        c.refused(x, "the last is 10,000", x.mean(1, 9999, 2), 5);
        c.refused(x, "the last is 10,000", x.mean(1, 9981, 20), 5);
        for (int seed : new int[] {-1, 10000, LEAST, MOST}) {
            c.refused(x, "seed " + seed, x.mean(1, seed, 1), 5);
            c.refused(x, "seed " + seed, x.mean(1, seed, 20), 5);
        }
        for (int many : new int[] {0, -1, 21, LEAST, MOST}) {
            c.refused(x, "so many seeds: " + many, x.mean(1, 5, many), 5);
            c.refused(x, "so many seeds: " + many, x.mean(1, 9999, many), 5);
        }
        c.refused(x, "0 seeds from 10,000 on", x.mean(1, 10000, 0), 5);
        c.refused(x, "-1 seeds from 10,001 on", x.mean(1, 10001, -1), 5);
    }

    private static void meanStatus() {
        c.says("Promise 51", "(2; 5: the last above 9,999, too; 8)");
        MarginPlan x = Check.with(SEEN);
        for (int cell : new int[] {-1, 2, LEAST, MOST}) {
            c.refused(x, "2 ahead of 8: " + cell, x.mean(cell, 0, 1), 2);
            c.refused(x, "2 ahead of 5: " + cell, x.mean(cell, -1, 1), 2);
        }
        c.refused(x, "5 ahead of 8", x.mean(0, -1, 1), 5);
        c.refused(x, "5 ahead of 8", x.mean(0, 0, 21), 5);
        c.refused(x, "5 ahead of 8", x.mean(0, 9999, 2), 5);
        c.refused(x, "8", x.mean(0, 0, 1), 8);
    }
}
