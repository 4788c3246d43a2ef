import java.lang.reflect.Constructor;
import java.lang.reflect.Field;
import java.lang.reflect.Method;
import java.lang.reflect.Modifier;
import java.lang.reflect.Parameter;
import java.util.ArrayList;
import java.util.Arrays;
import java.util.List;
import java.util.TreeSet;

/** The public face as the document tells it, no more and no less; and an object is good for its 512 calls. */
public final class FaceTest {
    private static final Check c = new Check("FaceTest");

    public static void main(String[] args) throws Exception {
        face();
        turnsToTheEnd();
        textsToTheEnd();
        marksToTheEnd();
        traysToTheEnd();
        bestToTheEnd();
        c.end();
    }

    private static void face() throws Exception {
        List<String> there = new ArrayList<>();
        for (Field f : MarginPlan.class.getDeclaredFields()) {
            c.due(f.getName() + " is public or private", Modifier.isPublic(f.getModifiers()) || Modifier.isPrivate(f.getModifiers()), true);
            if (Modifier.isPublic(f.getModifiers())) {
                there.add(Modifier.toString(f.getModifiers()) + " " + f.getType() + " " + f.getName() + " = " + f.get(null));
            }
        }
        for (Constructor<?> k : MarginPlan.class.getDeclaredConstructors()) {
            there.add(Modifier.toString(k.getModifiers()) + " MarginPlan(" + types(k.getParameters()) + ")");
        }
        for (Method m : MarginPlan.class.getDeclaredMethods()) {
            c.due(m.getName() + " is public or private", Modifier.isPublic(m.getModifiers()) || Modifier.isPrivate(m.getModifiers()), true);
            if (Modifier.isPublic(m.getModifiers())) {
                there.add(Modifier.toString(m.getModifiers()) + " " + m.getReturnType() + " " + m.getName() + "(" + types(m.getParameters()) + ")");
            }
        }
        List<String> due = new ArrayList<>();
        for (String line : Doc.face()) {
            due.add(line.replaceAll("(int|long|boolean) \\w+(?=[,)])", "$1"));
        }
        c.due("declarations", due.size(), 54);
        c.due("the face", new TreeSet<>(there).toString(), new TreeSet<>(due).toString());
        c.due("the class", Modifier.toString(MarginPlan.class.getModifiers()), "public final");
    }

    private static String types(Parameter[] given) {
        return String.join(", ", Arrays.stream(given).map(p -> p.getType().toString()).toList());
    }

    private static void turnsToTheEnd() {
        c.says("What it is", "An object is used for at most 512 calls after it has been made");
        MarginPlan x = new MarginPlan();
        for (int i = 1; i <= 512; i++) {
            c.due("turn(19), call " + i, x.turn(19), 19 * i);
        }
    }

    private static void textsToTheEnd() {
        MarginPlan x = new MarginPlan();
        for (int i = 1; i <= 128; i++) {
            c.due("feed", Check.feed(x, "cell a; secret s let"), 20);
            c.due("feed", Check.feed(x, "ters 3;             "), 40);
            c.due("book", x.book(27), 1);
            c.due("status", x.status(), 0);
        }
    }

    private static void marksToTheEnd() {
        MarginPlan x = Check.with("cell a; secret s letters 3; page p room 3; knows a s;");
        for (int i = 0; i < 125; i++) {
            c.due("mark", x.mark(), 1);
            c.due("turn", x.turn(99), 99);
            c.due("pricks", x.pricks(0, 0), 3);
            c.due("back", x.back(), 0);
        }
    }

    private static void traysToTheEnd() {
        MarginPlan x = new MarginPlan();
        for (int i = 0; i < 170; i++) {
            c.due("tray", x.tray(i % 4, 3, 60), true);
            c.due("write", x.write(i % 4, 59, i), true);
            c.due("read", x.read(i % 4, 59), i);
        }
    }

    /** The dearest calls there are, as often as an object has calls. */
    private static void bestToTheEnd() {
        MarginPlan x = Check.with(Texts.cells(6, " pricks 1") + Texts.secrets(6, 3) + Texts.pages(6, 60) + Texts.knows('f', 6) + "knows a sa;");
        int turns = x.bestOrder();
        int last = x.bestAt(5);
        for (int i = 0; i < 240; i++) {
            c.due("bestOrder", x.bestOrder(), turns);
            c.due("bestAt", x.bestAt(5), last);
        }
        c.due("it is one", turns > 18 && turns < 100, true);
    }
}
