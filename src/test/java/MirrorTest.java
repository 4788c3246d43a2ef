import java.math.BigInteger;
import java.util.ArrayList;
import java.util.List;
import java.util.Random;

/** Books at random, with all that may happen to them, by the class and by the plainest way side by side. */
public final class MirrorTest {
    private static final Check c = new Check("MirrorTest");

    public static void main(String[] args) {
        for (int seed = 0; seed < 1500; seed++) {
            Random r = new Random(seed);
            Naive n = new Naive(r, 8);
            while (n.text.length() > 900) {
                n = new Naive(r, 8);
            }
            run(seed, r, n);
        }
        c.end();
    }

    private static void run(int seed, Random r, Naive start) {
        MarginPlan x = new MarginPlan();
        Naive n = start;
        String told = "seed " + seed + ", ";
        c.fine(x, told + "book", Check.book(x, n.text.toString()), n.cells);
        NaiveRounds rounds = null;
        Naive marked = null;
        for (int i = 0; i < 14; i++) {
            int kind = r.nextInt(12);
            if (kind == 0) {
                rounds = new NaiveRounds(r, n);
                c.fine(x, told + "rounds", Check.rounds(x, rounds.text()), rounds.count());
            } else if (kind == 1 && rounds != null) {
                live(x, told, r, n, rounds);
            } else if (kind == 2 && rounds != null && n.cells > 0) {
                mean(x, told, r, n, rounds);
            } else if (kind == 3 && marked == null) {
                c.fine(x, told + "mark", x.mark(), 1);
                marked = n.clone();
            } else if (kind == 4 && marked != null) {
                c.fine(x, told + "back", x.back(), 0);
                n = marked;
                marked = null;
                rounds = null;
                x.rounds(0);
            } else {
                happen(x, told, r, n, kind);
            }
            look(x, told, n, r);
        }
    }

    private static void live(MarginPlan x, String told, Random r, Naive n, NaiveRounds rounds) {
        int seed = r.nextInt(10000);
        int turns = n.turns;
        int made = n.madeInAll();
        rounds.live(n, seed);
        c.fine(x, told + "live", x.live(seed), rounds.steps);
        c.fine(x, told + "missed", x.lived(0), rounds.missed);
        c.fine(x, told + "turns", x.lived(1), n.turns - turns);
        c.fine(x, told + "made", x.lived(2), n.madeInAll() - made);
        c.fine(x, told + "found", x.lived(3), rounds.found);
        c.fine(x, told + "left", x.lived(4), rounds.left);
    }

    private static void mean(MarginPlan x, String told, Random r, Naive n, NaiveRounds rounds) {
        int cell = r.nextInt(n.cells);
        int seed = r.nextInt(9990);
        int many = 1 + r.nextInt(5);
        int sum = 0;
        for (int i = 0; i < many; i++) {
            Naive other = n.clone();
            rounds.live(other, seed + i);
            sum += Integer.bitCount(other.known(cell));
        }
        fraction(x, told + "mean", x.mean(cell, seed, many), sum, many);
    }

    private static void fraction(MarginPlan x, String call, boolean got, long top, long bottom) {
        long by = BigInteger.valueOf(top).gcd(BigInteger.valueOf(bottom)).longValue();
        c.fraction(x, call, got, top / by, bottom / by);
    }

    private static void happen(MarginPlan x, String told, Random r, Naive n, int kind) {
        if (kind < 7) {
            int turns = 1 + r.nextInt(r.nextInt(4) == 0 ? 99 : 9);
            for (int i = 0; i < turns; i++) {
                n.turn();
            }
            c.fine(x, told + "turn", x.turn(turns), n.turns);
        } else if (kind == 7 && n.cells > 0) {
            int cell = r.nextInt(n.cells);
            n.ill[cell] = !n.ill[cell];
            c.fine(x, told + "ill", x.ill(cell, n.ill[cell]));
        } else if (kind == 8 && n.pages > 0) {
            int page = r.nextInt(n.pages);
            n.shut[page] = !n.shut[page];
            c.fine(x, told + "damp", x.damp(page, n.shut[page]));
        } else if (kind == 9 && n.pages > 0) {
            int page = r.nextInt(n.pages);
            int gone = n.erase(page);
            c.due(told + "rub", x.rub(page), gone == 0 ? -1 : gone);
            n.odds[page] = r.nextInt(17);
            c.fine(x, told + "watch", x.watch(page, n.odds[page]));
        } else if (kind == 10 && n.cells > 0) {
            int one = r.nextInt(n.cells);
            int other = r.nextInt(n.cells);
            c.due(told + "move", x.move(one, other), n.move(one, other));
        } else if (kind == 11 && n.cells > 0 && n.secrets > 0) {
            int cell = r.nextInt(n.cells);
            int secret = r.nextInt(n.secrets);
            c.due(told + "tell", x.tell(cell, secret), !n.knows[cell][secret]);
            n.knows[cell][secret] = true;
        }
    }

    private static void look(MarginPlan x, String told, Naive n, Random r) {
        int used = 0;
        for (int p = 0; p < n.pages; p++) {
            boolean[] stands = new boolean[n.secrets];
            for (int s = 0; s < n.secrets; s++) {
                c.fine(x, told + "pricks", x.pricks(p, s), n.dots[p][s]);
                stands[s] = n.stands(p, s);
            }
            c.fine(x, told + "free", x.page(p, 2), n.room[p] - n.used(p));
            c.fine(x, told + "stands", x.page(p, 3), Naive.set(stands));
            used += n.used(p);
        }
        for (int cell = 0; cell < n.cells; cell++) {
            c.fine(x, told + "knows", x.cell(cell, 3), n.known(cell));
            c.fine(x, told + "made", x.cell(cell, 5), n.made[cell]);
            c.due(told + "place", x.cell(cell, 4), n.order.indexOf(cell));
        }
        c.fine(x, told + "turns", x.many(4), n.turns);
        c.fine(x, told + "used", x.many(5), used);
        c.fine(x, told + "made", x.many(6), n.madeInAll());
        c.fine(x, told + "ill", x.many(7), Naive.set(n.ill));
        c.fine(x, told + "shut", x.many(8), Naive.set(n.shut));
        int next = n.nextPlace();
        c.due(told + "next", x.next(), next < 0 ? -1 : n.order.get(next));
        int kind = r.nextInt(4);
        if (kind == 0) {
            lookAhead(x, told, n, r);
        } else if (kind == 1) {
            lookAtPages(x, told, n);
        } else if (kind == 2 && r.nextInt(3) == 0 && n.order.size() <= 6) {
            lookForBest(x, told, n);
        }
    }

    private static void lookAhead(MarginPlan x, String told, Naive n, Random r) {
        int never = 0;
        int first = -1;
        int soonest = 1000;
        for (int s = 0; s < n.secrets; s++) {
            int heard = n.till(-1, s, 999);
            c.due(told + "heard", x.heard(s), heard);
            never |= heard < 0 ? 1 << s : 0;
            if (heard >= 0 && heard < soonest) {
                soonest = heard;
                first = s;
            }
        }
        c.fine(x, told + "never", x.never(), never);
        c.due(told + "firstHeard", x.firstHeard(), first);
        c.due(told + "all", x.all(), n.till(-1, -1, 999));
        int turns = r.nextInt(r.nextBoolean() ? 1000 : 20);
        Naive then = n.after(turns);
        for (int cell = 0; cell < n.cells; cell++) {
            c.fine(x, told + "later", x.later(cell, turns), then.known(cell));
        }
        for (int p = 0; p < n.pages; p++) {
            c.fine(x, told + "roomIn", x.roomIn(p, turns), n.room[p] - then.used(p));
        }
        if (n.cells > 0 && n.secrets > 0) {
            int cell = r.nextInt(n.cells);
            int secret = r.nextInt(n.secrets);
            c.due(told + "when", x.when(cell, secret), n.till(cell, secret, 999));
        }
    }

    private static void lookAtPages(MarginPlan x, String told, Naive n) {
        c.due(told + "kept", x.kept(), n.kept());
        int set = n.fitSet();
        c.due(told + "fitSet", x.fitSet(), set);
        c.due(told + "fits", x.fits(), set < 0 ? -1 : Integer.bitCount(set));
        for (int s = 0; s < n.secrets; s++) {
            c.due(told + "hide", x.hide(s), n.hide(s));
        }
        long safe = 1;
        long whole = 1;
        for (int p = 0; p < n.pages; p++) {
            if (!n.shut[p] && n.used(p) > 0) {
                safe *= 16 - n.odds[p];
                whole *= 16;
            }
        }
        fraction(x, told + "caught", x.caught(), whole - safe, whole);
        fraction(x, told + "risk", x.risk(2), whole * whole - safe * safe, whole * whole);
        game(x, told, n);
    }

    /** What the mixes come to: 1 in all, and each alike by its sixteenths. */
    private static void game(MarginPlan x, String told, Naive n) {
        boolean open = false;
        boolean safe = false;
        for (int p = 0; p < n.pages; p++) {
            open |= !n.shut[p];
            safe |= !n.shut[p] && n.odds[p] == 0;
        }
        if (!open) {
            c.refused(x, told + "game", x.game(), 8);
            return;
        }
        c.fine(x, told + "game", x.game());
        long top = x.top();
        long bottom = x.bottom();
        c.due(told + "safe", top == 0, safe);
        BigInteger sumTop = BigInteger.ZERO;
        BigInteger sumBottom = BigInteger.ONE;
        for (int p = 0; p < n.pages; p++) {
            if (n.shut[p]) {
                c.refused(x, told + "mix", x.mix(p), 9);
                continue;
            }
            c.fine(x, told + "mix", x.mix(p));
            // ODDS by sixteenths: no product may be above what GAME comes to.
            c.due(told + "product", x.top() * n.odds[p] * bottom <= top * 16 * x.bottom(), true);
            sumTop = sumTop.multiply(BigInteger.valueOf(x.bottom())).add(sumBottom.multiply(BigInteger.valueOf(x.top())));
            sumBottom = sumBottom.multiply(BigInteger.valueOf(x.bottom()));
        }
        c.due(told + "all mixes", sumTop.equals(sumBottom), true);
    }

    private static void lookForBest(MarginPlan x, String told, Naive n) {
        List<Integer> best = new ArrayList<>();
        int turns = n.best(best);
        c.due(told + "bestOrder", x.bestOrder(), turns);
        for (int i = 0; i < best.size(); i++) {
            c.fine(x, told + "bestAt", x.bestAt(i), best.get(i));
        }
        if (turns >= 0) {
            c.refused(x, told + "bestAt", x.bestAt(best.size()), 8);
        }
    }
}
