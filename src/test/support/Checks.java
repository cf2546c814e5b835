import java.lang.reflect.InvocationTargetException;
import java.lang.reflect.Method;
import java.util.Arrays;
import java.util.Comparator;
import java.util.NoSuchElementException;
import java.util.Set;
import java.util.TreeSet;
import java.util.function.Consumer;
import java.util.function.Supplier;

/** What the project's tests share: they extend this class, so that they can use its methods by their plain names. */
abstract class Checks {
    static final Class<? extends RuntimeException> INDEX = IndexOutOfBoundsException.class;
    static final Class<? extends RuntimeException> STATE = IllegalStateException.class;
    static final Class<? extends RuntimeException> ARGUMENT = IllegalArgumentException.class;
    static final Class<? extends RuntimeException> ELEMENT = NoSuchElementException.class;
    static final int NONE = FaceLattice.NONE;
    static final int LOW = Integer.MIN_VALUE;
    static final int HIGH = Integer.MAX_VALUE;

    static final String UNEVEN = "points 4;facet 0;facet 0 1;facet 2 3";
    static final String TWO_RINGS = "points 6;facet 0 1;facet 1 2;facet 0 2;facet 3 4;facet 4 5;facet 3 5";
    static final String TEN = "points 2" + ";facet 0".repeat(10);
    static final String[] SMALL = {"points 1", "points 8", "points 2;facet 0 1", "points 2;facet 0",
        "points 3;facet 0;facet 0", "simplex 2", "simplex 4", "cycle 3", "cycle 8", "cube 1", "cube 2", "cross 2",
        UNEVEN, "points 5;facet 0 1 2;facet 0 1;facet 3 4;facet 0 1 2 3 4", TEN, TWO_RINGS};
    static final String[] LARGE = {"simplex 8", "cube 3", "cross 3"};

    /** The test that runs: it begins with the section or the promise. */
    static String test = "";
    private static int checked = 0;
    private static int wrong = 0;

    /** Runs the tests of a class, which bear the numbers of the parts of the document in their names. */
    static void runAll(Class<?> tests, String part, int first, int last) throws IllegalAccessException {
        Method[] methods = tests.getDeclaredMethods();
        Arrays.sort(methods, Comparator.comparing(Method::getName));
        Set<String> parts = new TreeSet<>();
        int run = 0;
        for (Method method : methods) {
            if (method.getName().matches(part + "[0-9]+_\\w+")) {
                test = method.getName();
                parts.add(test.substring(0, test.indexOf('_')));
                run++;
                run(method);
            }
        }
        for (int number = first; number <= last; number++) {
            due(part + number + " has a test", parts.remove(part + number), true);
        }
        due("tests of other parts", parts.toString(), "[]");
        System.out.print(run + " tests, ");
        end();
    }

    private static void run(Method method) throws IllegalAccessException {
        int before = checked;
        try {
            method.invoke(null);
        } catch (InvocationTargetException e) {
            fail("ended with " + e.getCause());
        }
        due("something was checked", checked > before, true);
    }

    static void end() {
        System.out.println(checked + " answers checked, " + wrong + " wrong");
        if (wrong != 0) {
            System.exit(1);
        }
    }

    static void fail(String what) {
        wrong++;
        System.out.println(test + ": " + what);
    }

    static void due(String what, long got, long want) {
        checked++;
        if (got != want) {
            fail(what + " answered " + got + ", due is " + want);
        }
    }

    static void due(String what, boolean got, boolean want) {
        due(what, got ? 1 : 0, want ? 1 : 0);
    }

    static void due(String what, String got, String want) {
        checked++;
        if (!got.equals(want)) {
            fail(what + ": " + got + ", due is " + want);
        }
    }

    static void facetsDue(String what, FaceLattice x, int... want) {
        due(what + ": facets", facetsOf(x), Arrays.toString(want));
    }

    static void facesDue(String what, FaceLattice x, int... want) {
        due(what + ": faces", facesOf(x, 256), Arrays.toString(want));
    }

    static String facetsOf(FaceLattice x) {
        int[] facets = new int[x.facetCount()];
        for (int f = 0; f < facets.length; f++) {
            facets[f] = x.facet(f);
        }
        return Arrays.toString(facets);
    }

    static String facesOf(FaceLattice x, int most) {
        int[] faces = new int[Math.min(x.faceCount(), most)];
        for (int c = 0; c < faces.length; c++) {
            faces[c] = x.face(c);
        }
        return Arrays.toString(faces);
    }

    /** A call that must throw just this; for calls that only ask. */
    static void throwsDue(String what, Class<? extends RuntimeException> want, Runnable call) {
        String got = "nothing";
        try {
            call.run();
        } catch (RuntimeException e) {
            got = e.getClass().getName();
        }
        due(what + " throws", got, want.getName());
    }

    /** A call that must throw just this, and leave its object like a twin that was not called. */
    static void refused(String what, Supplier<FaceLattice> maker, Class<? extends RuntimeException> want,
            Consumer<FaceLattice> call) {
        FaceLattice x = maker.get();
        throwsDue(what, want, () -> call.accept(x));
        due(what + " changes nothing", allOf(x), allOf(maker.get()));
    }

    /** The same, with a full history and a copy of another number of facets, and with a short one and no copy. */
    static void refused(String what, String text, Class<? extends RuntimeException> want,
            Consumer<FaceLattice> call) {
        refused(what + " of " + text, () -> busy(text), want, call);
        refused(what + " of " + text, () -> quiet(text), want, call);
    }

    /**
     * All that calls can tell of an object, which is used up by that. The buffer and the copy come first:
     * a question about something else that changes them shall not do so here, too.
     */
    static String allOf(FaceLattice x) {
        return bufferOf(x) + restOf(x);
    }

    static String bufferOf(FaceLattice x) {
        StringBuilder seen = new StringBuilder();
        int length = lengthOf(x);
        for (int k = length; k >= 0; k -= 1 + length / 30) {
            seen.append(x.truncate(k)).append(" bytes: ").append(x.errorPosition()).append(", ");
        }
        return seen.toString();
    }

    /** All but the buffer. */
    static String restOf(FaceLattice x) {
        StringBuilder seen = new StringBuilder();
        seen.append(copyOf(x)).append(stateOf(x)).append(facesOf(x, 60));
        for (int k = 0; k < 10 && x.undoCount() > 0; k++) {
            seen.append("; undone ").append(x.undo()).append(stateOf(x));
        }
        try {
            seen.append("; restored ").append(x.restore()).append(stateOf(x));
        } catch (IllegalStateException e) {
            seen.append("; nothing to restore");
        }
        return seen.toString();
    }

    static String stateOf(FaceLattice x) {
        return " " + x.pointCount() + " points, facets " + facetsOf(x) + ", " + x.faceCount() + " faces, height "
                + x.height() + ", undo " + x.undoCount();
    }

    static String copyOf(FaceLattice x) {
        try {
            StringBuilder images = new StringBuilder("; like " + x.isLike());
            for (int p = 0; x.isLike() && p < x.pointCount(); p++) {
                images.append(' ').append(x.image(p));
            }
            return images.toString();
        } catch (IllegalStateException e) {
            return "; no copy";
        }
    }

    static void type(FaceLattice x, String text) {
        for (int from = 0; from < text.length(); from += 20) {
            int[] words = new int[5];
            for (int k = 0; k < 20 && from + k < text.length(); k++) {
                words[k / 4] |= text.charAt(from + k) << 24 - 8 * (k % 4);
            }
            x.append(words[0], words[1], words[2], words[3], words[4]);
        }
    }

    static FaceLattice typed(String text) {
        FaceLattice x = new FaceLattice();
        type(x, text);
        return x;
    }

    static FaceLattice of(String text) {
        FaceLattice x = typed(text);
        x.load();
        return x;
    }

    /** Has these points and facets after ten changes, a copy of another number of facets, and a buffer. */
    static FaceLattice busy(String text) {
        FaceLattice x = of(text);
        saveOther(x);
        changeAndChangeBack(x, 5);
        type(x, "points 5;facet 4 0;x");
        return x;
    }

    /** Has these points and facets after two changes, no copy, and another buffer. */
    static FaceLattice quiet(String text) {
        FaceLattice x = of(text);
        changeAndChangeBack(x, 1);
        type(x, "cube 2;");
        return x;
    }

    static void saveOther(FaceLattice x) {
        if (x.facetCount() < 10) {
            x.addFacet(0);
        } else {
            x.removeFacet(9);
        }
        x.save();
        x.undo();
    }

    private static void changeAndChangeBack(FaceLattice x, int times) {
        for (int k = 0; k < times; k++) {
            if (x.facetCount() == 0) {
                x.addFacet(1);
                x.removeFacet(0);
            } else {
                boolean before = (x.facet(0) & 1) == 1;
                x.setIncident(0, 0, !before);
                x.setIncident(0, 0, before);
            }
        }
    }

    static int errorIn(String text) {
        return typed(text).errorPosition();
    }

    static void errorDue(String text, int want) {
        due("\"" + text + "\" has its error", errorIn(text), want);
    }

    static int lengthOf(FaceLattice x) {
        return x.append(0, 0, 0, 0, 0);
    }

    static FaceLattice filled(int length) {
        FaceLattice x = new FaceLattice();
        type(x, ("points 3;facet 2 0" + " ".repeat(300)).substring(0, length));
        return x;
    }

    /** Numbers of which there is nothing, where there are so many. */
    static int[] beyond(int count) {
        return new int[] {-1, count, count + 1, count + 32, count + 256, -32, -256, LOW, HIGH};
    }

    static int last(FaceLattice x) {
        return x.faceCount() - 1;
    }

    static boolean contains(int set, int part) {
        return (set | part) == set;
    }

    static int[] sets(int points) {
        int[] sets = new int[1 << points];
        for (int set = 0; set < sets.length; set++) {
            sets[set] = set;
        }
        return sets;
    }
}
