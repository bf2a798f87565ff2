import java.lang.reflect.InvocationTargetException;
import java.lang.reflect.Method;
import java.lang.reflect.Modifier;
import java.util.Map;
import java.util.TreeMap;
import java.util.function.Supplier;

/** What the tests share: telling a text, comparing answers, counting those that are not as due. */
final class Checks {
    /** Three houses, four comers; dinner begins at house 0 in hour 3 and at house 1 in hour 2. */
    static final String COUNTY =
            "friend 0 0 4;enemy 0 1 6;aunt 1 2 2;bore 1 0 5;house 0;house;house 2;";
    /** As many houses and comers as there may be; nobody is on a list, and none is unwelcome. */
    static final String FULL_COUNTY = "house;house;house;house;friend 0 0 9;friend 0 0 9;"
            + "friend 1 0 9;friend 1 0 9;friend 2 0 9;friend 3 0 9;";
    private static final int BAD = UnaskedGuests.BAD;

    private static int wrong = 0;
    private static String sentence = "";

    private Checks() {
    }

    /** What is asked of the document from here on; it is told with an answer that is not as due. */
    static void sentence(String words) {
        sentence = words;
    }

    static void due(long want, long got) {
        due("", want, got);
    }

    static void due(String call, long want, long got) {
        if (want != got) {
            wrong(call + " answered " + got + ", due is " + want);
        }
    }

    static void wrong(String what) {
        wrong++;
        StringBuilder where = new StringBuilder();
        for (StackTraceElement e : new Throwable().getStackTrace()) {
            if (e.getClassName().indexOf('.') < 0 && !e.getClassName().equals("Checks")) {
                where.append(' ').append(e.getFileName()).append(':').append(e.getLineNumber());
            }
        }
        System.out.println(sentence + " |" + where + " | " + what);
    }

    static void finish(String held) {
        System.out.println(wrong == 0 ? held : wrong + " answers are not as due");
        if (wrong != 0) {
            System.exit(1);
        }
    }

    /** Runs every test of a class: its methods that are static, take nothing and are not private. */
    static void runAll(Class<?> tests) throws ReflectiveOperationException {
        Map<String, Method> byName = new TreeMap<>();
        for (Method m : tests.getDeclaredMethods()) {
            int is = m.getModifiers();
            if (Modifier.isStatic(is) && !Modifier.isPrivate(is) && m.getParameterCount() == 0) {
                byName.put(m.getName(), m);
            }
        }
        for (Method m : byName.values()) {
            sentence(m.getName());
            try {
                m.invoke(null);
            } catch (InvocationTargetException e) {
                e.getCause().printStackTrace(System.out);
                wrong(m.getName() + " threw " + e.getCause());
            }
        }
        if (byName.isEmpty()) {
            wrong("there are no tests in " + tests.getName());
        }
        finish(byName.size() + " tests of " + tests.getName() + " hold");
    }

    static void feedAll(UnaskedGuests x, String text) {
        for (int i = 0; i < text.length(); i++) {
            x.feed(text.charAt(i));
        }
    }

    static int tell(UnaskedGuests x, String text) {
        feedAll(x, text);
        return x.text();
    }

    static UnaskedGuests told(String text) {
        UnaskedGuests x = new UnaskedGuests();
        int lines = tell(x, text);
        if (lines < 0) {
            wrong("the text \"" + text + "\" was not taken: " + lines);
        }
        return x;
    }

    /** A text on a new object: what text() answers and what fault() does then. */
    static void reads(String text, int answer, int fault) {
        UnaskedGuests x = new UnaskedGuests();
        due("\"" + text + "\" text()", answer, tell(x, text));
        due("\"" + text + "\" fault()", fault, x.fault());
        due("\"" + text + "\" count(2)", 0, x.count(2));
    }

    /** Lays cells from 0 on a new sheet of that lane. */
    static void layRow(UnaskedGuests x, int k, int lane, int... cells) {
        x.sheet(k, lane, cells.length);
        for (int i = 0; i < cells.length; i++) {
            x.lay(k, i, cells[i]);
        }
    }

    /** A call with one number left open. */
    interface Call {
        long of(UnaskedGuests x, int v);
    }

    /** The number may be low to high, and is BAD below and above; each on an object of its own. */
    static void bounds(String call, Supplier<UnaskedGuests> made, int low, int high, Call asked) {
        for (int v = low; v <= high; v++) {
            if (asked.of(made.get(), v) == BAD) {
                wrong(call + " answered BAD by " + v);
            }
        }
        for (int v : new int[] {low - 1, high + 1, Integer.MIN_VALUE, Integer.MAX_VALUE}) {
            due(call + " by " + v, BAD, asked.of(made.get(), v));
        }
    }

    static void fraction(long above, long below, long gotAbove, long gotBelow) {
        due("above", above, gotAbove);
        due("below", below, gotBelow);
    }
}
