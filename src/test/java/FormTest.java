import java.lang.reflect.Constructor;
import java.lang.reflect.Field;
import java.lang.reflect.Method;
import java.lang.reflect.Modifier;
import java.nio.file.Files;
import java.nio.file.Path;
import java.util.ArrayList;
import java.util.List;
import java.util.Set;
import java.util.TreeSet;

/** The public face, what LANGUAGE.md asks that can be looked up, and that no number makes a call throw. */
public final class FormTest {
    private static final String[] FACE = {
        "int write(int, long)", "int wipe()", "int fault()", "int lay()", "int delay(int, int)", "int word(int, int)",
        "int drum(int, int)", "int pass(int)", "int undo()", "int beat(int, int)", "int stands(int, int, int)",
        "int said(int, int)", "int meaning(int, int, int)", "int unsay(int, int, int)", "int open(int)", "int add(int)",
        "int noRow()", "int takes(int)", "int mends(int)", "int spoiled(int)", "int tell(int)", "int forget()",
        "int secret(int)", "int chance(int, int, int, int)", "int day(int, int, int)", "int keep()", "int back()",
        "int count(int)"};
    private static final int[] EDGES = {Integer.MIN_VALUE, Integer.MIN_VALUE + 1, -100000, -5, -4, -3, -2, -1, 0, 1, 2, 3, 4,
        5, 7, 8, 9, 10, 23, 24, 25, 59, 60, 61, 99, 100, 299, 300, 600, 601, 9999, 10000, 65521, Integer.MAX_VALUE - 1,
        Integer.MAX_VALUE};
    private static int wrong = 0;

    private static void hold(boolean so, String what) {
        if (!so) {
            wrong++;
            System.out.println("not so: " + what);
        }
    }

    public static void main(String[] args) throws Exception {
        face();
        inside();
        source();
        edges(new UnsayingDrums());
        edges(busy("p5;x0,4,60;x1,3,0;h60;l1;w0;w01;w012;"));
        edges(busy("p1;f2;h1;l2;"));
        System.out.println(wrong == 0 ? "form: as asked" : "form: " + wrong + " not as asked");
        if (wrong != 0) System.exit(1);
    }

    private static String signature(Method m) {
        StringBuilder s = new StringBuilder(m.getReturnType().getName()).append(' ').append(m.getName()).append('(');
        for (Class<?> c : m.getParameterTypes()) {
            s.append(s.charAt(s.length() - 1) == '(' ? "" : ", ").append(c.getName());
        }
        return s.append(')').toString();
    }

    private static void face() {
        Class<?> c = UnsayingDrums.class;
        hold(Modifier.isPublic(c.getModifiers()) && Modifier.isFinal(c.getModifiers()), "public and final");
        Set<String> open = new TreeSet<>();
        Set<String> names = new TreeSet<>();
        for (Method m : c.getDeclaredMethods()) {
            if (Modifier.isPublic(m.getModifiers())) {
                hold(!Modifier.isStatic(m.getModifiers()), m.getName() + " belongs to an object");
                open.add(signature(m));
                names.add(m.getName());
            }
        }
        hold(open.equals(new TreeSet<>(List.of(FACE))), "the methods of the face: " + open);
        for (Method m : c.getDeclaredMethods()) {
            boolean isOpen = Modifier.isPublic(m.getModifiers());
            hold(isOpen || Modifier.isPrivate(m.getModifiers()), m.getName() + " is private");
            hold(isOpen || !names.contains(m.getName()), m.getName() + " has a name of its own");
        }
        for (Field f : c.getDeclaredFields()) {
            boolean told = Set.of("BAD", "NO", "FULL", "NONE").contains(f.getName());
            hold(told ? Modifier.isPublic(f.getModifiers()) : Modifier.isPrivate(f.getModifiers()), f.getName() + " is as open as told");
        }
        Constructor<?>[] makers = c.getDeclaredConstructors();
        hold(makers.length == 1 && Modifier.isPublic(makers[0].getModifiers()) && makers[0].getParameterCount() == 0, "one constructor");
    }

    private static void inside() {
        List<Class<?>> all = new ArrayList<>(List.of(UnsayingDrums.class.getDeclaredClasses()));
        hold(all.size() < 12, "at most twelve classes");
        all.add(UnsayingDrums.class);
        for (Class<?> c : all) {
            int fields = 0;
            for (Field f : c.getDeclaredFields()) {
                boolean fixed = Modifier.isStatic(f.getModifiers());
                hold(!fixed || Modifier.isFinal(f.getModifiers()), "static " + f.getName() + " is final");
                fields += fixed ? 0 : 1;
            }
            hold(fields <= 20, c + " has at most twenty fields");
            hold(c == UnsayingDrums.class || Modifier.isStatic(c.getModifiers()), c + " is static");
            for (Method m : c.getDeclaredMethods()) {
                hold(m.getParameterCount() <= 7, m + " has at most seven parameters");
            }
        }
    }

    private static void source() throws Exception {
        Path file = Path.of("src/main/java/UnsayingDrums.java");
        String text = Files.readString(file);
        for (String word : new String[] {"import ", "package ", "catch", "try ", "throw", "finally", "synchronized", "assert ",
            "->", "::", "Exact(", "static {", "Random", "nanoTime", "currentTimeMillis", "Thread", "toString", "hashCode", "_VALUE"}) {
            hold(!text.contains(word), "no '" + word + "'");
        }
        int length = 0;
        for (String line : Files.readAllLines(file)) {
            length = line.matches("    (    )?(public|private|static|boolean|int|void|[A-Z]\\w*\\().*\\{") ? 0 : length + 1;
            hold(length <= 60, "a method of at most sixty lines: " + line);
        }
    }

    private static UnsayingDrums busy(String text) {
        UnsayingDrums x = new UnsayingDrums();
        for (int i = 0; i < text.length(); i++) {
            x.write(1, text.charAt(i));
        }
        hold(x.lay() > 0, "lay of " + text);
        for (int i = 0; i < 24; i++) {
            x.drum(i % x.count(0), i % x.count(1));
            if (i % 3 == 0) x.pass(1);
            if (i < 8) x.add(i % x.count(1));
        }
        for (int p = 0; p < 3; p++) {
            x.tell(p);
        }
        x.keep();
        x.keep();
        return x;
    }

    /** Every call with every pair of edges in two of its arguments, the others going through them as well. */
    private static void edges(UnsayingDrums x) {
        int n = EDGES.length;
        for (int i = 0; i < n; i++) {
            for (int j = 0; j < n; j++) {
                int a = EDGES[i], b = EDGES[j], c = EDGES[(i + j) % n], d = EDGES[(i + 2 * j) % n];
                int[] answers = {x.delay(a, b), x.word(a, b), x.beat(a, b), x.stands(a, b, c), x.stands(c, a, b), x.said(a, b),
                    x.meaning(a, b, c), x.meaning(c, b, a), x.unsay(a, b, c), x.unsay(a, c, b), x.day(a, b, c), x.day(b, c, a),
                    x.chance(a, b, c, d), x.chance(a, c, b, d), x.chance(0, a, 1, b), x.chance(0, 0, a, b)};
                for (int answer : answers) {
                    hold(answer >= -4, "an answer below " + a + ", " + b);
                }
            }
        }
        for (int a : EDGES) {
            int[] answers = {x.open(a), x.takes(a), x.mends(a), x.spoiled(a), x.secret(a), x.count(a), x.tell(a), x.add(a),
                x.drum(a, 0), x.drum(0, a), x.undo(), x.pass(a), x.back(), x.keep(), x.write(a, a), x.fault(), x.lay()};
            for (int answer : answers) {
                hold(answer >= -4, "an answer below " + a);
            }
        }
    }
}
