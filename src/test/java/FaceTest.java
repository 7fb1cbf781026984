import java.io.IOException;
import java.lang.management.ManagementFactory;
import java.lang.reflect.Constructor;
import java.lang.reflect.Field;
import java.lang.reflect.InvocationTargetException;
import java.lang.reflect.Method;
import java.lang.reflect.Modifier;
import java.nio.file.Files;
import java.nio.file.Path;
import java.util.ArrayList;
import java.util.List;
import java.util.Random;
import java.util.TreeSet;
import java.util.regex.Pattern;

/** The public face, what LANGUAGE.md rules out, that no call throws, that no call makes objects. */
public final class FaceTest {
    private static final Due DUE = new Due();
    private static final String[] FACE = {
        "int feed 5", "int end 1", "int tell 0", "int days 1", "int wet 1", "int demand 2", "int order 3", "int barter 2",
        "int trade 2", "int move 2", "int undo 0", "int keep 1", "int back 1", "int reach 2", "int right 2", "int store 2",
        "int flow 2", "int takes 2", "int stored 2", "int shut 1", "int caller 1", "int calls 1", "int futile 2",
        "int needs 1", "int firm 3", "int without 3", "int hurt 3", "int movable 1", "int aged 1", "int runs 2",
        "long gone 1", "int coming 2", "int above 1", "int thirst 1", "int letter 1", "int dry 1", "int full 2", "int swap 4",
        "int spell 3", "int gain 3", "int share 2", "int worst 1", "int count 1"};

    public static void main(String[] args) throws Exception {
        face();
        words();
        neverThrows();
        makesNothing();
        DUE.end();
    }

    private static void face() {
        DUE.is("class", Modifier.toString(RiverCall.class.getModifiers()), "public final");
        TreeSet<String> want = new TreeSet<>(List.of(FACE));
        TreeSet<String> got = new TreeSet<>();
        TreeSet<String> names = new TreeSet<>();
        for (Method m : RiverCall.class.getDeclaredMethods()) {
            if (Modifier.isPrivate(m.getModifiers())) {
                continue;
            }
            DUE.is("modifiers of " + m.getName(), Modifier.toString(m.getModifiers()), "public");
            got.add(m.getReturnType() + " " + m.getName() + " " + m.getParameterCount());
            names.add(m.getName());
        }
        DUE.is("methods", got.toString(), want.toString());
        for (Class<?> c : classes()) {
            for (Method m : c.getDeclaredMethods()) {
                boolean isFace = c == RiverCall.class && Modifier.isPublic(m.getModifiers());
                DUE.is("the name " + m.getName() + " again", !isFace && names.contains(m.getName()) ? 1 : 0, 0);
            }
        }
        for (Field f : RiverCall.class.getDeclaredFields()) {
            boolean none = f.getName().equals("NONE");
            DUE.is("field " + f.getName(), Modifier.isPrivate(f.getModifiers()) ? 0 : 1, none ? 1 : 0);
        }
        for (Constructor<?> c : RiverCall.class.getDeclaredConstructors()) {
            DUE.is("constructor " + c, c.getParameterCount(), 0);
        }
    }

    private static List<Class<?>> classes() {
        List<Class<?>> all = new ArrayList<>(List.of(RiverCall.class.getDeclaredClasses()));
        all.add(RiverCall.class);
        return all;
    }

    private static void words() throws IOException {
        String source = Files.readString(Path.of("src/main/java/RiverCall.java"));
        String code = source.replaceAll("(?s)/\\*.*?\\*/", "").replaceAll("//[^\n]*", "");
        String[] never = {"\\bthrow\\b", "\\btry\\b", "\\bcatch\\b", "\\bsynchronized\\b", "\\bassert\\b", "\\bimport\\b",
            "\\bpackage\\b", "->", "::", "Exact\\b", "\\bthrows\\b", "\\bnull\\b", "\\bdouble\\b", "\\bfloat\\b", "\\bObject\\b",
            "\\btoString\\b", "\\bhashCode\\b", "\" *\\+", "\\+ *\"", "\\[\\]\\["};
        for (String word : never) {
            DUE.is("in the source: " + word, Pattern.compile(word).matcher(code).find() ? 1 : 0, 0);
        }
        for (Class<?> c : classes()) {
            int fields = 0;
            for (Field f : c.getDeclaredFields()) {
                fields += Modifier.isStatic(f.getModifiers()) ? 0 : 1;
                DUE.is("static " + f, Modifier.isStatic(f.getModifiers()) && !Modifier.isFinal(f.getModifiers()) ? 1 : 0, 0);
            }
            DUE.is("fields of " + c, fields > 20 ? fields : 0, 0);
            DUE.is("static " + c, c == RiverCall.class || Modifier.isStatic(c.getModifiers()) ? 1 : 0, 1);
            for (Method m : c.getDeclaredMethods()) {
                DUE.is("parameters of " + m, m.getParameterCount() > 7 ? 1 : 0, 0);
            }
        }
    }

    private static void neverThrows() throws IllegalAccessException {
        Random random = new Random(7);
        int[] edges = {Integer.MIN_VALUE, Integer.MAX_VALUE, -100, -3, -2, -1, 0, 1, 2, 3, 4, 5, 10, 11, 12, 13, 14, 15, 29,
            30, 59, 60, 61, 99, 100, 101, 103, 104, 359, 360, 361, 399, 400, 401, 9999, 10000};
        String[] texts = {"", Due.CALLED, full(), "reach mouth 9999 9999 9999 9999;right 0 9999 0 359 age 1 back 0 100 30;wet 400"};
        for (int run = 0; run < 60; run++) {
            RiverCall x = new RiverCall();
            Due.tell(x, texts[run % texts.length]);
            for (int k = 0; k < 450; k++) {
                Method m = null;
                Method[] all = RiverCall.class.getMethods();
                do {
                    m = all[random.nextInt(all.length)];
                } while (m.getDeclaringClass() != RiverCall.class || m.getName().equals("tell"));
                Object[] arguments = new Object[m.getParameterCount()];
                for (int i = 0; i < arguments.length; i++) {
                    arguments[i] = random.nextInt(12) == 0 ? random.nextInt() : edges[random.nextInt(edges.length)];
                }
                try {
                    m.invoke(x, arguments);
                } catch (InvocationTargetException e) {
                    DUE.is(m.getName() + " threw " + e.getCause(), 1, 0);
                }
            }
        }
        for (int run = 0; run < 20000; run++) {
            RiverCall x = new RiverCall();
            StringBuilder text = new StringBuilder(texts[1 + run % 3]);
            int changes = 1 + random.nextInt(3);
            for (int i = 0; i < changes; i++) {
                int place = random.nextInt(text.length());
                if (random.nextBoolean()) {
                    text.deleteCharAt(place);
                } else {
                    text.setCharAt(place, " ;0159aegrt\0\u00ff".charAt(random.nextInt(13)));
                }
            }
            int answer = Due.tell(x, text.toString());
            DUE.is("a fault within " + text, answer >= 0 || (-2 - answer) / 8 <= text.length() ? 1 : 0, 1);
        }
    }

    /** As many REACHES, RIGHTS and STORES as one text of 400 bytes takes, all at their limits but the reaches. */
    private static String full() {
        StringBuilder text = new StringBuilder("reach mouth 1 1 1 1");
        for (int i = 1; i < 5; i++) {
            text.append(";reach").append(i - 1).append(" 9 9 9 9");
        }
        for (int i = 0; i < 14; i++) {
            text.append(";right").append(i % 5).append(" 5 0 9age").append(i);
        }
        for (int i = 0; i < 4; i++) {
            text.append(";store").append(i).append(" 9 9age").append(20 + i);
        }
        return text.toString();
    }

    private static void makesNothing() {
        com.sun.management.ThreadMXBean threads =
            (com.sun.management.ThreadMXBean) ManagementFactory.getThreadMXBean();
        long id = Thread.currentThread().getId();
        RiverCall x = Due.told(full());
        useAll(x);
        long before = threads.getThreadAllocatedBytes(id);
        for (int i = 0; i < 10; i++) {
            useAll(x);
        }
        long made = threads.getThreadAllocatedBytes(id) - before;
        DUE.is("bytes that calls make", made > 2000 ? made : 0, 0);
    }

    private static void useAll(RiverCall x) {
        x.days(3);
        x.wet(x.count(4) == 90 ? 91 : 90);
        x.demand(0, 2);
        x.order(0, 0, 5);
        x.barter(0, 0);
        x.trade(0, 1);
        x.move(0, 1);
        x.keep(0);
        x.back(0);
        x.undo();
        x.letter(-1);
        x.movable(0);
        x.dry(10);
        x.needs(3);
        x.caller(5);
        x.calls(1);
        x.worst(360);
        x.feed(0x77657420, 0x37000000, 0, 0, 0);
        x.tell();
    }
}
