import java.util.ArrayList;
import java.util.List;
import java.util.Random;

/** ROUNDS as a tree, made at random, told as a TEXT, and lived step by step. */
final class NaiveRounds {
    private static final class Step {
        String word;
        int one;
        int other;
        List<Step> inside;
    }

    private static final class Over extends RuntimeException {
        private static final long serialVersionUID = 1;
    }

    private final List<Step> all = new ArrayList<>();
    private final StringBuilder text = new StringBuilder();
    private int count = 0;
    int steps;
    int missed;
    int found;
    int left;
    private int seed;

    NaiveRounds(Random r, Naive n) {
        fill(r, n, all, 0);
    }

    String text() {
        return text.toString();
    }

    int count() {
        return count;
    }

    private void fill(Random r, Naive n, List<Step> into, int depth) {
        int many = r.nextInt(5);
        for (int i = 0; i < many && count < 30; i++) {
            // Room for what ends the steps around it.
            if (text.length() > 300 - 25 - 6 * depth) {
                return;
            }
            Step step = new Step();
            step.one = -1;
            int kind = r.nextInt(12);
            pick(r, n, step, kind, depth);
            if (step.word == null) {
                continue;
            }
            into.add(step);
            count++;
            text.append(r.nextInt(3) == 0 ? " " : "");
            text.append(tell(step));
            if (step.inside != null) {
                fill(r, n, step.inside, depth + 1);
                text.append("end;");
            }
        }
    }

    private static void pick(Random r, Naive n, Step step, int kind, int depth) {
        if (kind < 3) {
            set(step, "turn", 1 + r.nextInt(r.nextInt(3) == 0 ? 99 : 6), 0);
        } else if (kind == 3 && n.cells > 0) {
            set(step, "ill", r.nextInt(n.cells), 0);
        } else if (kind == 4 && n.cells > 0) {
            set(step, "move", r.nextInt(n.cells), r.nextInt(n.cells));
        } else if (kind == 5 && n.pages > 0) {
            set(step, r.nextBoolean() ? "rub" : "damp", r.nextInt(n.pages), 0);
        } else if (kind == 6 || kind == 7) {
            set(step, "warder", 0, 0);
        } else if (kind == 8 && depth < 3) {
            test(r, n, step);
        } else if ((kind == 9 || kind == 10) && depth < 3) {
            set(step, "loop", 1 + r.nextInt(r.nextInt(3) == 0 ? 99 : 5), 0);
            step.inside = new ArrayList<>();
        } else if (kind == 11 && r.nextInt(4) == 0) {
            set(step, "stop", 0, 0);
        }
    }

    private static void test(Random r, Naive n, Step step) {
        if (n.secrets == 0 || n.cells == 0 || n.pages == 0) {
            return;
        }
        int which = r.nextInt(3);
        if (which == 0) {
            set(step, "knows", r.nextInt(n.cells), r.nextInt(n.secrets));
        } else if (which == 1) {
            set(step, "full", r.nextInt(n.pages), 0);
        } else {
            set(step, "all", r.nextInt(n.secrets), 0);
        }
        step.inside = new ArrayList<>();
    }

    private static void set(Step step, String word, int one, int other) {
        step.word = word;
        step.one = one;
        step.other = other;
    }

    private static String tell(Step s) {
        switch (s.word) {
            case "turn":
            case "loop": return s.word + " " + s.one + ";";
            case "ill": return "ill " + Naive.cellName(s.one) + ";";
            case "move": return "move " + Naive.cellName(s.one) + " " + Naive.cellName(s.other) + ";";
            case "rub":
            case "damp": return s.word + " " + Naive.pageName(s.one) + ";";
            case "knows": return "when knows " + Naive.cellName(s.one) + " " + Naive.secretName(s.other) + ";";
            case "full": return "when full " + Naive.pageName(s.one) + ";";
            case "all": return "when all " + Naive.secretName(s.one) + ";";
            default: return s.word + ";";
        }
    }

    void live(Naive n, int by) {
        steps = 0;
        missed = 0;
        found = 0;
        left = 0;
        seed = by;
        try {
            run(n, all);
        } catch (Over over) {
            // A stop, or the 300.
        }
    }

    private void run(Naive n, List<Step> list) {
        for (Step s : list) {
            if (steps == 300) {
                left = 1;
                throw new Over();
            }
            steps++;
            if (!done(n, s)) {
                missed++;
            }
        }
    }

    private boolean done(Naive n, Step s) {
        switch (s.word) {
            case "turn":
                if (n.turns + s.one > 9999) {
                    return false;
                }
                for (int i = 0; i < s.one; i++) {
                    n.turn();
                }
                return true;
            case "ill": n.ill[s.one] = !n.ill[s.one]; return true;
            case "damp": n.shut[s.one] = !n.shut[s.one]; return true;
            case "move": return n.move(s.one, s.other);
            case "rub": return n.erase(s.one) > 0;
            case "warder": return warder(n);
            case "stop": throw new Over();
            case "loop":
                for (int i = 0; i < s.one; i++) {
                    run(n, s.inside);
                }
                return true;
            case "knows": return inside(n, s, n.knows[s.one][s.other]);
            case "full": return inside(n, s, n.used(s.one) == n.room[s.one]);
            default: return inside(n, s, n.heard(s.one));
        }
    }

    private boolean inside(Naive n, Step s, boolean holds) {
        if (holds) {
            run(n, s.inside);
        }
        return true;
    }

    private boolean warder(Naive n) {
        int gone = 0;
        for (int p = 0; p < n.pages; p++) {
            if (!n.shut[p]) {
                seed = (seed * 2969 + 10651) % 65536;
                if (seed / 8 % 16 < n.odds[p]) {
                    gone += n.erase(p);
                }
            }
        }
        found += gone;
        return gone > 0;
    }
}
