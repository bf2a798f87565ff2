import java.lang.management.ManagementFactory;
import java.lang.reflect.Constructor;
import java.lang.reflect.Field;
import java.lang.reflect.Method;
import java.lang.reflect.Modifier;
import java.nio.file.Files;
import java.nio.file.Path;
import java.util.Arrays;
import java.util.Random;
import java.util.Set;
import java.util.TreeSet;
import java.util.regex.Pattern;

/** The face is the document's and no more; no call throws or makes objects; the source keeps to LANGUAGE.md. */
public final class FaceTests {
    private static final Set<String> FACE = new TreeSet<>(Set.of(
            "int feed(int)", "int end(int)", "int text()", "int fault()", "int rule(int)",
            "int house(int,int)", "int comer(int,int)", "int likes(int,int)", "int alter(int,int,int)",
            "int fancy(int,int,int)", "int invite(int,int,boolean)", "int evenings(int)",
            "int runs(int,int)", "int ahead(int,int,int)", "int begins(int,int)", "int send(int,int)",
            "int swap(int)", "int strike(int)", "int late(int)", "int most(int,int)",
            "int kind(int,int,int)", "int pair(int,int,int)", "long luck(int,int,int)",
            "long mean(int,int)", "int see(int,int,int)", "int forget(int)", "int kinds(int)",
            "int levels(int,int)", "int ask(int,int)", "int drift(int,int,int)", "int keep(int)",
            "int back(int)", "int sheet(int,int,int)", "int lay(int,int,int)",
            "int read(int,int,int,int)", "int torn()", "int count(int)"));
    private static final String COUNTY =
            "friend 0 0 4;enemy 0 1 6;aunt 1 2 2;bore 1 0 5;aunt 9 0 0;enemy 2 6 9;house 0;house;house 2;house;";
    private static final int[] EDGES = {0, 1, 2, 3, 4, 5, 6, 7, 8, 9, 10, 11, 20, 21, 30, 31, 40, 41, 59, 60,
        61, 127, 128, 160, -1, -2, Integer.MAX_VALUE, Integer.MAX_VALUE - 1, Integer.MIN_VALUE, 65536};

    private static int wrong = 0;

    private static void fail(String what) {
        wrong++;
        System.out.println(what);
    }

    private static void face() {
        Set<String> got = new TreeSet<>();
        for (Method m : UnaskedGuests.class.getDeclaredMethods()) {
            if (!Modifier.isPrivate(m.getModifiers())) {
                StringBuilder s = new StringBuilder(m.getReturnType() + " " + m.getName() + "(");
                for (Class<?> t : m.getParameterTypes()) {
                    s.append(s.charAt(s.length() - 1) == '(' ? "" : ",").append(t);
                }
                got.add(s + ")");
            }
        }
        if (!got.equals(FACE)) {
            fail("the face is " + got);
        }
        Set<String> constants = new TreeSet<>();
        for (Field f : UnaskedGuests.class.getDeclaredFields()) {
            if (!Modifier.isPrivate(f.getModifiers())) {
                constants.add(f.getName());
            }
            if (Modifier.isStatic(f.getModifiers()) && !Modifier.isFinal(f.getModifiers())) {
                fail("static and not final: " + f);
            }
        }
        if (!constants.equals(Set.of("BAD", "STATE", "FULL", "NONE"))) {
            fail("the constants are " + constants);
        }
        Constructor<?>[] made = UnaskedGuests.class.getDeclaredConstructors();
        if (made.length != 1 || made[0].getParameterCount() != 0 || !Modifier.isPublic(made[0].getModifiers())) {
            fail("the constructors are " + Arrays.toString(made));
        }
        int is = UnaskedGuests.class.getModifiers();
        if (!Modifier.isFinal(is) || !Modifier.isPublic(is)) {
            fail("the class is not public and final");
        }
        if (UnaskedGuests.BAD != -1 || UnaskedGuests.STATE != -2 || UnaskedGuests.FULL != -3 || UnaskedGuests.NONE != -4) {
            fail("the constants have other values");
        }
    }

    /** Rules 1, 5 and 11 of LANGUAGE.md, as far as they show from outside. */
    private static void classesInside() {
        Set<String> names = new TreeSet<>();
        for (String m : FACE) {
            names.add(m.substring(m.indexOf(' ') + 1, m.indexOf('(')));
        }
        Class<?>[] inside = UnaskedGuests.class.getDeclaredClasses();
        if (inside.length + 1 > 12) {
            fail("more than some twelve classes");
        }
        notNamedAs(names, UnaskedGuests.class);
        for (Class<?> c : inside) {
            int is = c.getModifiers();
            if (!Modifier.isStatic(is) || Modifier.isPublic(is) || Modifier.isProtected(is)) {
                fail(c + " is not static and hidden");
            }
            notNamedAs(names, c);
            int fields = 0;
            for (Field f : c.getDeclaredFields()) {
                fields += Modifier.isStatic(f.getModifiers()) ? 0 : 1;
                if (Modifier.isStatic(f.getModifiers()) && !Modifier.isFinal(f.getModifiers())) {
                    fail("static and not final: " + f);
                }
            }
            if (fields > 20) {
                fail(c + " has " + fields + " fields");
            }
        }
    }

    private static void notNamedAs(Set<String> names, Class<?> c) {
        for (Method m : c.getDeclaredMethods()) {
            if (!Modifier.isPublic(m.getModifiers()) && names.contains(m.getName())) {
                fail(m + " bears the name of a public method");
            }
            if (m.getParameterCount() > 7) {
                fail(m + " takes more than seven");
            }
        }
    }

    private static void source(String path) throws Exception {
        String text = Files.readString(Path.of(path)).replaceAll("(?s)/\\*.*?\\*/", "").replaceAll("//[^\n]*", "");
        String words = "throw|try|catch|synchronized|assert|import|package|Object|double|float|"
                + "hashCode|toString|Exact|values|NaN|lambda|protected";
        if (Pattern.compile("\\b(" + words + ")\\b|->|::").matcher(text).find()) {
            fail("the source has a word that LANGUAGE.md leaves out");
        }
        for (char c : text.toCharArray()) {
            if (c > 126) {
                fail("a sign beyond 126 in the source");
            }
        }
    }

    private static UnaskedGuests told() {
        UnaskedGuests x = new UnaskedGuests();
        for (char c : COUNTY.toCharArray()) {
            x.feed(c);
        }
        x.text();
        return x;
    }

    private static void wildCalls() throws Exception {
        Random random = new Random(7);
        Method[] methods = UnaskedGuests.class.getMethods();
        for (int run = 0; run < 400; run++) {
            UnaskedGuests x = run % 5 == 0 ? new UnaskedGuests() : told();
            for (int i = 0; i < 400; i++) {
                Method m = methods[random.nextInt(methods.length)];
                if (m.getDeclaringClass() != UnaskedGuests.class) {
                    continue;
                }
                Object[] args = new Object[m.getParameterCount()];
                for (int a = 0; a < args.length; a++) {
                    args[a] = m.getParameterTypes()[a] == boolean.class
                            ? (Object) random.nextBoolean()
                            : (Object) EDGES[random.nextInt(random.nextInt(3) == 0 ? EDGES.length : 4)];
                }
                try {
                    m.invoke(x, args);
                } catch (java.lang.reflect.InvocationTargetException e) {
                    fail(m + " threw " + e.getCause());
                    return;
                }
            }
        }
    }

    private static long dearCalls(UnaskedGuests x) {
        long sum = x.rule(3) + x.house(0, 2) + x.runs(60, 0) + x.ahead(0, 0, 60) + x.begins(0, 60);
        sum += x.send(0, 0) + x.swap(0) + x.strike(0) + x.late(1) + x.most(0, 1) + x.kind(0, 60, 0);
        sum += x.pair(0, 1, 0) + x.luck(5, 0, 0) + x.mean(5, 1) + x.see(9, 0, 7) + x.kinds(0);
        sum += x.levels(0, 0) + x.ask(0, 0) + x.drift(7, 60, 0) + x.keep(0) + x.back(0);
        sum += x.sheet(0, 0, 40) + x.lay(0, 1, 9) + x.read(0, 0, 0, 20) + x.feed(32) + x.text() + x.forget(0);
        return sum;
    }

    /** All calls of a run share one room, so a call makes nothing at all. */
    private static void room() {
        com.sun.management.ThreadMXBean threads =
                (com.sun.management.ThreadMXBean) ManagementFactory.getThreadMXBean();
        long id = Thread.currentThread().getId();
        UnaskedGuests[] all = new UnaskedGuests[200];
        for (int i = 0; i < all.length; i++) {
            all[i] = told();
        }
        dearCalls(all[0]);
        threads.getThreadAllocatedBytes(id);
        long before = threads.getThreadAllocatedBytes(id);
        long sum = 0;
        for (UnaskedGuests x : all) {
            sum += dearCalls(x);
        }
        long made = threads.getThreadAllocatedBytes(id) - before;
        if (made > 4096) {
            fail("the calls made " + made + " bytes of objects (sum " + sum + ")");
        }
    }

    public static void main(String[] args) throws Exception {
        face();
        classesInside();
        source(args.length > 0 ? args[0] : "src/main/java/UnaskedGuests.java");
        wildCalls();
        room();
        System.out.println(wrong == 0 ? "the face is as told" : wrong + " faults");
        if (wrong != 0) {
            System.exit(1);
        }
    }
}
