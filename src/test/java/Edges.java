import java.lang.reflect.InvocationTargetException;
import java.lang.reflect.Method;
import java.util.Arrays;
import java.util.Comparator;
import java.util.function.Consumer;
import java.util.function.ToLongFunction;
import java.util.stream.IntStream;

/** What the tests of boundary cases share: complexes to begin with, and refused calls that must leave no trace. */
final class Edges {
    static final int LEAST = Integer.MIN_VALUE;
    static final int MOST = Integer.MAX_VALUE;
    static final int NO_INT = Integer.MIN_VALUE;
    static final long NO_LONG = Long.MIN_VALUE;

    /** a 0, b 1, c 2, ab 3, ac 4, bc 5, abc 6. */
    static final String SOLID = "abc";

    /** As SOLID, without the triangle. */
    static final String RING = "ab,bc,ac";

    /** 31, 16 more with f, 8 with g, then eg, dg and deg, h, fg: 60. */
    static final String SIXTY = "abcde,abcdf,abcg,eg,deg,h,fg";

    /** The projective plane: 6 points, 15 edges, 10 triangles. */
    static final String PLANE = "abc,abd,ace,aef,adf,bcf,bde,bef,cde,cdf";

    private static int wrong;
    private static String name;

    private Edges() {
    }

    /** Makes an object that has come somewhere; full: with 16 ACTS that can be UNDONE, older ones lost. */
    interface Start {
        MorseDesk make(boolean full);
    }

    /** Runs every test of a class that is named by its promise, and asks that none of the promises has no test. */
    static void run(Class<?> tests, int first, int last) {
        int[] perPromise = new int[100];
        Method[] all = tests.getDeclaredMethods();
        Arrays.sort(all, Comparator.comparing(Method::getName));
        for (Method test : all) {
            if (test.getName().matches("p\\d\\d_\\w+")) {
                perPromise[Integer.parseInt(test.getName().substring(1, 3))]++;
                runOne(test);
            }
        }
        name = tests.getName();
        for (int promise = 0; promise < perPromise.length; promise++) {
            if ((promise >= first && promise <= last) != (perPromise[promise] > 0)) {
                tellWrong("promise " + promise + " has " + perPromise[promise] + " tests");
            }
        }
        int ran = IntStream.of(perPromise).sum();
        System.out.println(ran + " tests of promises " + first + " to " + last + ", " + wrong + " answers are wrong");
        if (wrong != 0) {
            System.exit(1);
        }
    }

    private static void runOne(Method test) {
        name = test.getName();
        try {
            test.invoke(null);
        } catch (InvocationTargetException e) {
            tellWrong("it threw " + e.getCause());
        } catch (IllegalAccessException e) {
            tellWrong("it cannot be run: " + e);
        }
    }

    private static void tellWrong(String what) {
        wrong++;
        int line = 0;
        for (StackTraceElement at : new Throwable().getStackTrace()) {
            if (line == 0 && at.getMethodName().matches("(lambda\\$)?p\\d\\d_.*")) {
                line = at.getLineNumber();
            }
        }
        System.out.println(name + ", line " + line + ": " + what);
    }

    static void due(long got, long want) {
        if (got != want) {
            tellWrong("answered " + got + ", due is " + want);
        }
    }

    static void dueRow(long[] got, long... want) {
        if (!Arrays.equals(got, want)) {
            tellWrong("answered " + Arrays.toString(got) + ", due is " + Arrays.toString(want));
        }
    }

    /** Puts a text behind what the TAPE has: how many bytes it has then. */
    static int put(MorseDesk desk, String text) {
        int before = desk.count(9);
        for (int at = 0; at < text.length(); at += 20) {
            int[] n = new int[5];
            for (int i = 0; i < 20 && at + i < text.length(); i++) {
                n[i / 4] |= text.charAt(at + i) << (24 - i % 4 * 8);
            }
            desk.feed(n[0], n[1], n[2], n[3], n[4]);
        }
        return desk.end(before + text.length());
    }

    static int tell(MorseDesk desk, String text) {
        desk.end(0);
        put(desk, text);
        return desk.complex();
    }

    static MorseDesk of(String text) {
        MorseDesk desk = new MorseDesk();
        tell(desk, text);
        return desk;
    }

    /** RING with a and ab, b and bc in PAIRS: c and ac are CRITICAL, two PATHS lie between them. */
    static MorseDesk ringInPairs() {
        MorseDesk desk = of(RING);
        desk.pair(0, 3);
        desk.pair(1, 5);
        return desk;
    }

    /** Only the point c of SOLID is THERE. */
    static MorseDesk onePoint() {
        MorseDesk desk = of(SOLID);
        desk.collapse(3);
        desk.collapse(0);
        desk.collapse(1);
        return desk;
    }

    static long[] partners(MorseDesk desk) {
        long[] all = new long[desk.count(0)];
        for (int k = 0; k < all.length; k++) {
            all[k] = desk.simplex(k, 3);
        }
        return all;
    }

    /** Numbers that a COMPLEX of this size has not: beside its ends, and such as a shift or a mask would fold back. */
    static int[] beyond(int size) {
        int[] all = {LEAST, LEAST + 1, -257, -65, -64, -63, -2, -1, size, size + 1, 60, 61, 62, 63, 64, 65, 66,
            127, 128, 192, 255, 256, 257, 65536, MOST - 1, MOST};
        return IntStream.of(all).filter(k -> k < 0 || k >= size).toArray();
    }

    /** A COMPLEX and ACTS on it, and all else that a call could disturb: PAIRS KEPT at 0 and at 1, x, a TAPE. */
    static Start laden(String text, Consumer<MorseDesk> acts) {
        return full -> {
            MorseDesk desk = of(text);
            if (full) {
                fillWithActs(desk);
            }
            desk.keep(1);
            acts.accept(desk);
            desk.keep(0);
            desk.draws(MOST);
            put(desk, "fgh, ae");
            return desk;
        };
    }

    static Start laden(String text) {
        return laden(text, desk -> { });
    }

    /** No COMPLEX, but an x and a TAPE. */
    static final Start BARE = full -> {
        MorseDesk desk = new MorseDesk();
        desk.draws(MOST);
        put(desk, "fgh, ae");
        return desk;
    };

    /** As it comes out there are no PAIRS, but more ACTS were done than can be UNDONE. */
    private static void fillWithActs(MorseDesk desk) {
        for (int i = 0; i < 17; i++) {
            desk.auto(0);
        }
        for (int k = 0; k < desk.count(0); k++) {
            desk.part(k);
        }
    }

    /** All that can be asked of a state without changing it: counts, what is KEPT, every SIMPLEX. */
    static long[] look(MorseDesk desk) {
        int size = desk.count(0);
        long[] seen = new long[13 + 7 * size];
        for (int what = 0; what < 10; what++) {
            seen[what] = desk.count(what);
        }
        for (int k = 0; k < 3; k++) {
            seen[10 + k] = desk.same(k);
        }
        for (int i = 0; i < 7 * size; i++) {
            seen[13 + i] = desk.simplex(i / 7, i % 7);
        }
        return seen;
    }

    static void dueAlike(MorseDesk got, MorseDesk want) {
        dueRow(look(got), look(want));
    }

    /** The answer, and nothing happens: whatever is asked or undone afterwards is as without the call. */
    static void refused(Start start, ToLongFunction<MorseDesk> call, long answer) {
        same(start, call, answer, desk -> { });
    }

    /** A question or a refused call on each of some states. */
    static void refusedOnAll(Start[] starts, ToLongFunction<MorseDesk> call, long answer) {
        for (Start start : starts) {
            refused(start, call, answer);
        }
    }

    /** A call answers and leaves all as another way to go on does. */
    static void same(Start start, ToLongFunction<MorseDesk> call, long answer, Consumer<MorseDesk> instead) {
        for (boolean full : new boolean[] {false, true}) {
            int acts = start.make(full).count(7);
            for (int back = 0; back <= acts + 1; back++) {
                MorseDesk with = start.make(full);
                due(call.applyAsLong(with), answer);
                MorseDesk without = start.make(full);
                instead.accept(without);
                for (int i = 0; i < back; i++) {
                    due(with.undo(), without.undo());
                }
                dueAlike(with, without);
            }
            // What is KEPT shows when PAIRS are others; the bytes of the TAPE when they are read.
            for (int next = 0; next < 4; next++) {
                MorseDesk with = start.make(full);
                call.applyAsLong(with);
                MorseDesk without = start.make(full);
                instead.accept(without);
                due(next < 3 ? with.auto(next) : with.complex(), next < 3 ? without.auto(next) : without.complex());
                dueAlike(with, without);
            }
        }
    }
}
