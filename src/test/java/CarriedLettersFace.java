import java.io.IOException;
import java.lang.reflect.Constructor;
import java.lang.reflect.Field;
import java.lang.reflect.InvocationTargetException;
import java.lang.reflect.Method;
import java.lang.reflect.Modifier;
import java.nio.file.Files;
import java.nio.file.Path;
import java.util.ArrayList;
import java.util.Arrays;
import java.util.List;
import java.util.NoSuchElementException;
import java.util.Random;
import java.util.Set;
import java.util.TreeSet;

/** The public face, the language's rules as far as they show, and that no arguments make the machine throw. */
public final class CarriedLettersFace extends Asking {
    private static final String FACE = "feed(int,int,int,int,int)int script(int)int fault()int where()int about(int)int kind(int)int "
            + "pass(int,int)int rule(int,int,int)int letter(int,int,int,int)int goes(int,int,int)int depth(int,int)int ends(int,int)int "
            + "pieces(int)int piece(int,int)int clear(int)int unclear(int)int readings(int,long)int reading(int,long,int)int sure()int "
            + "carry(long)int out(int)int behind(int)int outOf(int,int)int rounds(int)int served(int,int)int apart(long,long)int "
            + "turned(long)int turnedOut(long,int)int words(int)int reversible(int)int failing(int,int)long doubled(int)int "
            + "fails(int,int)int firstFail(int,int)long sources(int,long)int source(int,long,int)long longest(int)int "
            + "longestOf(int)long idle(int,int)int comeBack(int)int lost(int)long worst(int)int aside(int,int,int)int undo()boolean "
            + "empty(int)int size(int)int trouble()int";
    private static final String[] SCRIPTS = {
        "script letters 4;kind vow of ae;pass;rule a to bcd;rule after vow b to none;pass again;rule bb to b;rule c before edge to aa",
        "script letters 2;pass again;rule a to b;rule b to a",
        "script letters 3;pass;rule a to aaaa;rule b to abab;rule c to hhhh;pass;rule a to gg;rule h to ab;pass again;rule gg to g",
        "script letters 4;pass;rule a to none;rule b to none;rule c to none;rule d to none",
        "script letters 2;pass;kind"};

    private static int wrong = 0;

    private static void must(boolean holds, String what) {
        if (!holds) {
            wrong++;
            System.out.println(what);
        }
    }

    private static void face() {
        Class<?> c = CarriedLetters.class;
        must(Modifier.isFinal(c.getModifiers()) && Modifier.isPublic(c.getModifiers()), "the class is public and final");
        Set<String> due = new TreeSet<>(Arrays.asList(FACE.split(" ")));
        Set<String> there = new TreeSet<>();
        Set<String> names = new TreeSet<>();
        for (Method m : c.getDeclaredMethods()) {
            List<String> types = new ArrayList<>();
            for (Class<?> t : m.getParameterTypes()) {
                types.add(t.getSimpleName());
            }
            if (Modifier.isPublic(m.getModifiers())) {
                there.add(m.getName() + "(" + String.join(",", types) + ")" + m.getReturnType().getSimpleName());
                names.add(m.getName());
            } else {
                must(Modifier.isPrivate(m.getModifiers()), m + " is neither public nor private");
            }
            must(m.getParameterCount() <= 7, m + " takes more than seven");
        }
        must(due.equals(there), "the methods are " + there);
        for (Field f : c.getDeclaredFields()) {
            must(Modifier.isPrivate(f.getModifiers()) || f.getName().equals("NONE"), f + " is not private");
            must(!Modifier.isStatic(f.getModifiers()) || Modifier.isFinal(f.getModifiers()), f + " is static and not final");
        }
        Constructor<?>[] made = c.getDeclaredConstructors();
        must(made.length == 1 && made[0].getParameterCount() == 0 && Modifier.isPublic(made[0].getModifiers()), "one constructor");
        nested(c, names);
    }

    private static void nested(Class<?> c, Set<String> names) {
        List<Class<?>> all = new ArrayList<>(Arrays.asList(c.getDeclaredClasses()));
        must(all.size() <= 12, "more than twelve classes");
        all.add(c);
        for (Class<?> inside : all) {
            int fields = 0;
            for (Field f : inside.getDeclaredFields()) {
                fields += Modifier.isStatic(f.getModifiers()) ? 0 : 1;
            }
            must(fields <= 20, inside + " has " + fields + " fields");
            for (Method m : inside.getDeclaredMethods()) {
                must(Modifier.isPublic(m.getModifiers()) || !names.contains(m.getName()), m + " bears a public name");
            }
        }
    }

    private static void text(String path) throws IOException {
        String text = Files.readString(Path.of(path)).replaceAll("(?s)/\\*.*?\\*/", "").replaceAll("//.*", "");
        for (String word : new String[] {"->", "::", "catch", "finally", "synchronized", "assert ", "double ", "float ", "Exact(",
            "System.nanoTime", "System.current", "Random", "package ", "instanceof", "static {"}) {
            must(!text.contains(word), "the file has " + word);
        }
        for (String line : text.split("\n")) {
            must(!line.startsWith("import") || line.equals("import java.util.Arrays;") || line.equals("import java.util.NoSuchElementException;"),
                    "the file has " + line);
        }
        methods(text);
    }

    /** A method begins with a line that ends in ") {" at four or eight blanks and ends with a brace at as many. */
    private static void methods(String text) {
        String[] lines = text.split("\n");
        int from = -1;
        for (int k = 0; k < lines.length; k++) {
            if (lines[k].matches(" {4}( {4})?[a-zA-Z].*\\)( throws \\w+)? \\{")) {
                from = k;
            }
            if (from >= 0 && lines[k].matches(" {4}( {4})?\\}")) {
                must(k - from <= 60, "long: " + lines[from]);
                from = -1;
            }
        }
    }

    private static Object some(Random random, Class<?> type) {
        long[] odd = {Long.MIN_VALUE, Long.MAX_VALUE, -1, 0, 97, 0x6161616161616161L, 0x6868686868686868L, 0x61626364L, 1L << 32, 105,
            Integer.MIN_VALUE, Integer.MAX_VALUE, random.nextLong()};
        long value = random.nextInt(3) == 0 ? odd[random.nextInt(odd.length)] : random.nextInt(8) - 1;
        if (type == long.class) {
            return random.nextBoolean() ? (Object) odd[random.nextInt(odd.length)] : (Object) value;
        }
        return (int) value;
    }

    private static void anyArguments() throws IllegalAccessException {
        Random random = new Random(7);
        List<Method> all = new ArrayList<>();
        for (Method m : CarriedLetters.class.getDeclaredMethods()) {
            if (Modifier.isPublic(m.getModifiers())) {
                all.add(m);
            }
        }
        all.sort((a, b) -> a.getName().compareTo(b.getName()));
        for (int run = 0; run < 300; run++) {
            CarriedLetters x = new CarriedLetters();
            for (int call = 0; call < 512; call++) {
                if (random.nextInt(60) == 0) {
                    String script = SCRIPTS[random.nextInt(SCRIPTS.length)];
                    feed(x, script);
                    x.script(script.length());
                }
                Method m = all.get(random.nextInt(all.size()));
                Object[] arguments = new Object[m.getParameterCount()];
                for (int k = 0; k < arguments.length; k++) {
                    arguments[k] = some(random, m.getParameterTypes()[k]);
                }
                try {
                    m.invoke(x, arguments);
                } catch (InvocationTargetException e) {
                    must(m.getName().equals("empty") && e.getCause() instanceof NoSuchElementException,
                            m.getName() + Arrays.toString(arguments) + " threw " + e.getCause());
                }
            }
        }
    }

    /** The dearest calls, as often as an object is used: none of them may take memory but the first. */
    private static void memory() {
        com.sun.management.ThreadMXBean threads = (com.sun.management.ThreadMXBean) java.lang.management.ManagementFactory.getThreadMXBean();
        long id = Thread.currentThread().getId();
        long before = threads.getThreadAllocatedBytes(id);
        CarriedLetters x = new CarriedLetters();
        long made = threads.getThreadAllocatedBytes(id) - before;
        feed(x, SCRIPTS[0]);
        x.script(SCRIPTS[0].length());
        for (int k = 0; k < 60; k++) {
            feed(x, SCRIPTS[0]);
            x.script(SCRIPTS[0].length());
            x.worst(4);
            x.comeBack(5);
            x.aside(0, k % 2, 1);
            x.worst(3);
            x.sure();
            x.carry(0x6162636465666768L);
            x.apart(0x6162636465666768L, 0x6162L);
            x.turned(0x6162L);
            x.undo();
        }
        long all = threads.getThreadAllocatedBytes(id) - before;
        System.out.println("bytes: a new object " + made + ", with 600 dear calls " + all);
        must(all < 2_000_000, "calls take memory");
    }

    public static void main(String[] args) throws IOException, IllegalAccessException {
        face();
        text(args.length > 0 ? args[0] : "src/main/java/CarriedLetters.java");
        anyArguments();
        memory();
        System.out.println(wrong == 0 ? "the face is as it must be" : wrong + " things are not as they must be");
        if (wrong != 0) {
            System.exit(1);
        }
    }
}
