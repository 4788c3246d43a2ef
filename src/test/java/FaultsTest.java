import java.util.ArrayList;
import java.util.Arrays;
import java.util.HashMap;
import java.util.List;
import java.util.Map;
import java.util.Random;

/** TEXTS with faults at random: which FAULT it is and where, by the class and by a reader of its own. */
public final class FaultsTest {
    private static final Check c = new Check("FaultsTest");
    private static final List<String> KEYS = Arrays.asList(("cell pricks blind rubs secret letters page room knows order read odds"
        + " turn ill move rub damp warder when full all loop end stop").split(" "));
    private static final String[] PIECES = ("cell pricks blind rubs secret letters page room knows order read odds turn ill move rub damp"
        + " warder when full all loop end stop ; ; ; ; < > = ! A 0 1 5 16 17 20 21 60 61 99 100 9999 10000 ca cb sa sb pa pb zz"
        + " abcdefgh abcdefghi").split(" ");

    private static final class Fault extends RuntimeException {
        private static final long serialVersionUID = 1;
        final int kind;
        final int place;

        Fault(int kind, int place) {
            this.kind = kind;
            this.place = place;
        }
    }

    /** Reads along the tokens, and throws the first FAULT. */
    private static final class Reader {
        final String text;
        final List<String> tokens = new ArrayList<>();
        final List<Integer> places = new ArrayList<>();
        int at = 0;
        final Map<String, Character> names = new HashMap<>();
        int cells = 0;
        int secrets = 0;
        int pages = 0;
        int steps = 0;

        Reader(String text) {
            this.text = text;
            java.util.regex.Matcher m = java.util.regex.Pattern.compile("[ \n]+|[a-z]+|[0-9]+|(?s).").matcher(text);
            while (m.find()) {
                if (!m.group().matches("[ \n]+")) {
                    tokens.add(m.group());
                    places.add(m.start());
                }
            }
        }

        String token() {
            return at < tokens.size() ? tokens.get(at) : "";
        }

        void fault(int kind) {
            String t = token();
            boolean bad = !t.isEmpty() && !t.matches("[a-z]+|[0-9]{1,4}|[;<=>]");
            throw new Fault(bad ? 1 : kind, at < places.size() ? places.get(at) : text.length());
        }

        void need(boolean good, int kind) {
            if (!good) {
                fault(kind);
            }
        }

        void sign() {
            need(token().equals(";"), 2);
            at++;
        }

        void number(int low, int high) {
            need(token().matches("[0-9]{1,4}"), 2);
            int v = Integer.parseInt(token());
            need(v >= low && v <= high, 4);
            at++;
        }

        String name() {
            need(token().matches("[a-z]{1,8}") && !KEYS.contains(token()), 2);
            return token();
        }

        void fresh(char kind) {
            String name = name();
            need(!names.containsKey(name), 3);
            names.put(name, kind);
            at++;
        }

        void told(char kind) {
            String name = name();
            need(names.containsKey(name) && names.get(name) == kind, 3);
            at++;
        }

        void word(String word) {
            need(token().equals(word), 2);
            at++;
        }

        boolean perhaps(String word) {
            if (token().equals(word)) {
                at++;
                return true;
            }
            return false;
        }

        void book() {
            while (at < tokens.size()) {
                String word = token();
                switch (word) {
                    case "cell": need(cells < 8, 6); break;
                    case "secret": need(secrets < 6, 6); break;
                    case "page": need(pages < 6, 6); break;
                    case "knows":
                    case "order":
                    case "read": break;
                    default: fault(2);
                }
                at++;
                part(word);
                sign();
            }
        }

        private void part(String word) {
            switch (word) {
                case "cell":
                    fresh('c');
                    cells++;
                    if (perhaps("pricks")) {
                        number(0, 20);
                    }
                    perhaps("blind");
                    perhaps("rubs");
                    break;
                case "secret": fresh('s'); secrets++; word("letters"); number(1, 20); break;
                case "page": fresh('p'); pages++; word("room"); number(0, 60); break;
                case "knows": told('c'); told('s'); break;
                case "read": told('p'); word("odds"); number(0, 16); break;
                default: order(); break;
            }
        }

        private void order() {
            List<String> seen = new ArrayList<>();
            do {
                String name = token();
                if (seen.contains(name)) {
                    fault(5);
                }
                told('c');
                seen.add(name);
            } while (!token().equals(";"));
        }

        void rounds() {
            inside(0);
        }

        private void inside(int depth) {
            while (at < tokens.size() && !(depth > 0 && token().equals("end"))) {
                String word = token();
                need(Arrays.asList("turn", "ill", "move", "rub", "damp", "warder", "when", "loop", "stop").contains(word), 2);
                need(steps < 30, 6);
                boolean deep = word.equals("when") || word.equals("loop");
                need(!deep || depth < 3, 7);
                steps++;
                at++;
                step(word);
                sign();
                if (deep) {
                    inside(depth + 1);
                    word("end");
                    sign();
                }
            }
        }

        private void step(String word) {
            switch (word) {
                case "turn":
                case "loop": number(1, 99); break;
                case "ill": told('c'); break;
                case "move": told('c'); told('c'); break;
                case "rub":
                case "damp": told('p'); break;
                case "when": test(); break;
                default: break;
            }
        }

        private void test() {
            if (perhaps("knows")) {
                told('c');
                told('s');
            } else if (perhaps("full")) {
                told('p');
            } else {
                word("all");
                told('s');
            }
        }
    }

    public static void main(String[] args) {
        for (int seed = 0; seed < 4000; seed++) {
            Random r = new Random(seed);
            Naive n = new Naive(r, 8);
            MarginPlan x = new MarginPlan();
            String good = n.text.toString();
            if (good.length() > 900) {
                continue;
            }
            compareBook(x, good);
            NaiveRounds rounds = new NaiveRounds(r, n);
            for (int i = 0; i < 6; i++) {
                compareRounds(x, good, rounds.text().isEmpty() ? pieces(r) : spoilt(r, rounds.text()));
                compareRounds(x, good, pieces(r));
            }
            for (int i = 0; i < 12; i++) {
                compareBook(x, i % 4 == 0 ? pieces(r) : spoilt(r, good));
            }
        }
        c.end();
    }

    private static String pieces(Random r) {
        StringBuilder text = new StringBuilder();
        int many = r.nextInt(12);
        for (int i = 0; i < many; i++) {
            text.append(PIECES[r.nextInt(PIECES.length)]).append(r.nextInt(4) == 0 ? "" : " ");
        }
        return text.toString();
    }

    private static String spoilt(Random r, String text) {
        StringBuilder now = new StringBuilder(text);
        int many = 1 + r.nextInt(3);
        for (int i = 0; i < many; i++) {
            int at = r.nextInt(now.length() + 1);
            int kind = r.nextInt(5);
            if (kind == 0 && at < now.length()) {
                now.deleteCharAt(at);
            } else if (kind == 1) {
                now.insert(at, " " + PIECES[r.nextInt(PIECES.length)] + " ");
            } else if (kind == 2 && at < now.length()) {
                now.setCharAt(at, (char) (r.nextInt(8) == 0 ? r.nextInt(256) : " \n;0159azsc".charAt(r.nextInt(11))));
            } else if (kind == 3) {
                now.insert(at, PIECES[r.nextInt(PIECES.length)]);
            } else if (r.nextInt(4) == 0) {
                now.setLength(at);
            }
        }
        return now.toString();
    }

    private static void compareBook(MarginPlan x, String text) {
        if (text.length() > 900) {
            return;
        }
        Reader reader = new Reader(text);
        try {
            reader.book();
            c.fine(x, "<" + text + ">", Check.book(x, text), reader.cells);
            c.due("secrets of <" + text + ">", x.many(1), reader.secrets);
            c.due("pages of <" + text + ">", x.many(2), reader.pages);
            c.due("fault of <" + text + ">", x.fault(0), 0);
            c.due("its place", x.fault(1), -1);
        } catch (Fault f) {
            c.bookFault(x, text, f.kind, f.place);
        }
    }

    private static void compareRounds(MarginPlan x, String book, String text) {
        if (text.length() > 300) {
            return;
        }
        Reader known = new Reader(book);
        known.book();
        Reader reader = new Reader(text);
        reader.names.putAll(known.names);
        try {
            reader.rounds();
            c.fine(x, "<" + text + ">", Check.rounds(x, text), reader.steps);
            c.due("fault of <" + text + ">", x.fault(0), 0);
            c.due("its place", x.fault(1), -1);
            x.live(0);
        } catch (Fault f) {
            c.roundsFault(x, text, f.kind, f.place);
        }
    }
}
