import java.util.ArrayList;
import java.util.List;
import java.util.Random;

/** The document's Terms 2 to 4 once more, in the plainest way, for comparing: nothing is remembered that can be counted anew. */
final class Naive implements Cloneable {
    int cells;
    int secrets;
    int pages;
    int[] speed;
    boolean[] blind;
    boolean[] rubs;
    int[] letters;
    int[] room;
    int[] odds;
    boolean[][] knows;
    List<Integer> order = new ArrayList<>();
    int place = 0;
    boolean[] ill;
    boolean[] shut;
    int[][] dots;
    int[] made;
    int turns = 0;
    StringBuilder text = new StringBuilder();

    static String cellName(int cell) {
        return "c" + (char) ('a' + cell);
    }

    static String secretName(int secret) {
        return "s" + (char) ('a' + secret);
    }

    static String pageName(int page) {
        return "p" + (char) ('a' + page);
    }

    Naive(Random r, int mostCells) {
        cells = r.nextInt(mostCells + 1);
        secrets = r.nextInt(7);
        pages = r.nextInt(7);
        speed = new int[cells];
        blind = new boolean[cells];
        rubs = new boolean[cells];
        letters = new int[secrets];
        room = new int[pages];
        odds = new int[pages];
        knows = new boolean[cells][secrets];
        ill = new boolean[cells];
        shut = new boolean[pages];
        dots = new int[pages][secrets];
        made = new int[cells];
        for (int i = 0; i < cells; i++) {
            tellCell(r, i);
        }
        for (int i = 0; i < secrets; i++) {
            letters[i] = 1 + r.nextInt(r.nextBoolean() ? 6 : 20);
            text.append("secret ").append(secretName(i)).append(" letters ").append(letters[i]).append(';');
        }
        for (int i = 0; i < pages; i++) {
            room[i] = r.nextInt(r.nextBoolean() ? 12 : 61);
            text.append("page ").append(pageName(i)).append(" room ").append(room[i]).append(';');
            if (r.nextBoolean()) {
                odds[i] = r.nextInt(17);
                text.append("read ").append(pageName(i)).append(" odds ").append(odds[i]).append(';');
            }
        }
        for (int s = 0; s < secrets; s++) {
            for (int k = 0; k < 2 && cells > 0; k++) {
                int c = r.nextInt(cells);
                knows[c][s] = true;
                text.append("knows ").append(cellName(c)).append(' ').append(secretName(s)).append(';');
            }
        }
        tellOrder(r);
    }

    private void tellCell(Random r, int i) {
        text.append("cell ").append(cellName(i));
        speed[i] = 5;
        if (r.nextInt(4) > 0) {
            speed[i] = r.nextInt(r.nextBoolean() ? 4 : 21);
            text.append(" pricks ").append(speed[i]);
        }
        blind[i] = r.nextInt(5) == 0;
        rubs[i] = r.nextInt(4) == 0;
        text.append(blind[i] ? " blind" : "").append(rubs[i] ? " rubs;" : ";");
    }

    private void tellOrder(Random r) {
        for (int c = 0; c < cells; c++) {
            order.add(c);
        }
        if (cells > 0 && r.nextBoolean()) {
            java.util.Collections.shuffle(order, r);
            while (order.size() > 1 && r.nextInt(4) == 0) {
                order.remove(0);
            }
            text.append("order");
            for (int c : order) {
                text.append(' ').append(cellName(c));
            }
            text.append(';');
        }
    }

    @Override
    public Naive clone() {
        try {
            Naive other = (Naive) super.clone();
            other.order = new ArrayList<>(order);
            other.odds = odds.clone();
            other.ill = ill.clone();
            other.shut = shut.clone();
            other.made = made.clone();
            other.knows = knows.clone();
            for (int i = 0; i < cells; i++) {
                other.knows[i] = knows[i].clone();
            }
            other.dots = dots.clone();
            for (int i = 0; i < pages; i++) {
                other.dots[i] = dots[i].clone();
            }
            return other;
        } catch (CloneNotSupportedException e) {
            throw new IllegalStateException(e);
        }
    }

    int used(int page) {
        int sum = 0;
        for (int many : dots[page]) {
            sum += many;
        }
        return sum;
    }

    boolean stands(int page, int secret) {
        return dots[page][secret] == letters[secret];
    }

    boolean standsOpen(int secret) {
        for (int p = 0; p < pages; p++) {
            if (!shut[p] && stands(p, secret)) {
                return true;
            }
        }
        return false;
    }

    int nextPlace() {
        for (int i = 0; i < order.size(); i++) {
            int at = (place + i) % order.size();
            if (!ill[order.get(at)]) {
                return at;
            }
        }
        return -1;
    }

    void turn() {
        turns++;
        int at = nextPlace();
        if (at < 0) {
            return;
        }
        place = (at + 1) % order.size();
        int cell = order.get(at);
        boolean[] ahead = knows[cell].clone();
        if (!blind[cell]) {
            for (int s = 0; s < secrets; s++) {
                knows[cell][s] |= standsOpen(s);
            }
            if (rubs[cell]) {
                rubFirst(ahead);
            }
        }
        int left = speed[cell];
        for (int s = 0; s < secrets; s++) {
            if (knows[cell][s] && !standsOpen(s)) {
                left -= prick(s, left);
            }
        }
        made[cell] += speed[cell] - left;
    }

    private void rubFirst(boolean[] ahead) {
        for (int p = 0; p < pages; p++) {
            for (int s = 0; s < secrets; s++) {
                if (!shut[p] && stands(p, s) && !ahead[s]) {
                    dots[p][s] = 0;
                    return;
                }
            }
        }
    }

    private int prick(int secret, int left) {
        int best = -1;
        for (int p = 0; p < pages; p++) {
            if (!shut[p] && used(p) < room[p] && (best < 0 || dots[p][secret] > dots[best][secret])) {
                best = p;
            }
        }
        if (best < 0) {
            return 0;
        }
        int many = Math.min(Math.min(letters[secret] - dots[best][secret], room[best] - used(best)), left);
        dots[best][secret] += many;
        return many;
    }

    Naive after(int many) {
        Naive other = clone();
        for (int i = 0; i < many; i++) {
            other.turn();
        }
        return other;
    }

    boolean heard(int secret) {
        for (int c = 0; c < cells; c++) {
            if (!blind[c] && !knows[c][secret]) {
                return false;
            }
        }
        return true;
    }

    boolean all() {
        for (int s = 0; s < secrets; s++) {
            if (!heard(s)) {
                return false;
            }
        }
        return true;
    }

    /** TURNS till then: cell -1 for HEARD, secret -1, too, for ALL. */
    int till(int cell, int secret, int most) {
        Naive other = clone();
        for (int i = 0; i <= most; i++) {
            boolean is = cell >= 0 ? other.knows[cell][secret] : secret >= 0 ? other.heard(secret) : other.all();
            if (is) {
                return i;
            }
            other.turn();
        }
        return -1;
    }

    /** TURNS of the BEST ORDER, and that in `found`. */
    int best(List<Integer> found) {
        List<Integer> left = new ArrayList<>(order);
        java.util.Collections.sort(left);
        int[] soonest = {100};
        tryAll(new ArrayList<>(), left, soonest, found);
        return soonest[0] == 100 ? -1 : soonest[0];
    }

    private void tryAll(List<Integer> begun, List<Integer> left, int[] soonest, List<Integer> found) {
        if (left.isEmpty()) {
            Naive other = clone();
            other.order = new ArrayList<>(begun);
            other.place = 0;
            int turns = other.till(-1, -1, 99);
            if (turns >= 0 && turns < soonest[0]) {
                soonest[0] = turns;
                found.clear();
                found.addAll(begun);
            }
            return;
        }
        for (int i = 0; i < left.size(); i++) {
            List<Integer> rest = new ArrayList<>(left);
            begun.add(rest.remove(i));
            tryAll(begun, rest, soonest, found);
            begun.remove(begun.size() - 1);
        }
    }

    int fitSet() {
        int best = -1;
        for (int set = 0; set < 1 << pages; set++) {
            if ((best < 0 || Integer.bitCount(set) < Integer.bitCount(best)) && lays(set, 0, room.clone())) {
                best = set;
            }
        }
        return best;
    }

    private boolean lays(int set, int secret, int[] free) {
        if (secret == secrets) {
            return true;
        }
        for (int p = 0; p < pages; p++) {
            if ((set >> p & 1) != 0 && free[p] >= letters[secret]) {
                free[p] -= letters[secret];
                boolean done = lays(set, secret + 1, free);
                free[p] += letters[secret];
                if (done) {
                    return true;
                }
            }
        }
        return false;
    }

    int kept() {
        int best = -1;
        for (int p = 0; p < pages; p++) {
            if (!shut[p] && (best < 0 || room[p] - used(p) > room[best] - used(best))) {
                best = p;
            }
        }
        return best;
    }

    int hide(int secret) {
        int best = -1;
        for (int p = 0; p < pages; p++) {
            if (!shut[p] && room[p] - used(p) >= letters[secret] && (best < 0 || odds[p] < odds[best])) {
                best = p;
            }
        }
        return best;
    }

    int erase(int page) {
        int many = used(page);
        dots[page] = new int[secrets];
        return many;
    }

    boolean move(int one, int other) {
        int a = order.indexOf(one);
        int b = order.indexOf(other);
        if (one == other || a < 0 || b < 0) {
            return false;
        }
        order.set(a, other);
        order.set(b, one);
        return true;
    }

    int madeInAll() {
        int sum = 0;
        for (int many : made) {
            sum += many;
        }
        return sum;
    }

    int known(int cell) {
        return set(knows[cell]);
    }

    static int set(boolean[] of) {
        int set = 0;
        for (int i = 0; i < of.length; i++) {
            set |= of[i] ? 1 << i : 0;
        }
        return set;
    }
}
