import java.lang.reflect.InvocationTargetException;
import java.lang.reflect.Method;
import java.util.ArrayList;
import java.util.Arrays;
import java.util.List;
import java.util.NoSuchElementException;
import java.util.TreeMap;
import java.util.function.ToLongFunction;

/**
 * What the tests of boundary cases share. Such a test is a static method whose name says the promise and the
 * case: p04_seventhLetterOfAName is of promise 4. Each makes its own objects.
 */
final class Edges {
    static final String FOUR = "ba5;ab4;a9;bad3";
    static final String EIGHT = "a1;b2;c3;d4;e5;f6;g7;h8";

    private static String test = "";
    private static int wrong = 0;

    /** Runs all tests of a class: each promise from the first to the last one must have some. */
    static void run(Class<?> tests, int first, int last) {
        TreeMap<String, Method> all = new TreeMap<>();
        for (Method m : tests.getDeclaredMethods()) {
            if (m.getName().matches("p[0-9][0-9]_\\w+")) {
                all.put(m.getName(), m);
            }
        }
        for (int promise = first; promise <= last; promise++) {
            String head = String.format("p%02d_", promise);
            String next = all.ceilingKey(head);
            if (next == null || !next.startsWith(head)) {
                fail("promise " + promise + " has no test");
            }
        }
        for (Method m : all.values()) {
            test = m.getName();
            try {
                m.invoke(null);
            } catch (IllegalAccessException | InvocationTargetException e) {
                fail("threw " + e.getCause());
            }
        }
        System.out.println(all.size() + " boundary cases, " + wrong + " answers not as due");
        if (wrong != 0) {
            System.exit(1);
        }
    }

    private static void fail(String what) {
        wrong++;
        System.out.println(test + ": " + what);
    }

    // ---- what is due

    static void is(String what, long got, long due) {
        if (got != due) {
            fail(what + " answered " + got + ", due is " + due);
        }
    }

    static void is(String what, boolean got, boolean due) {
        is(what, got ? 1 : 0, due ? 1 : 0);
    }

    /** The ROW is this and no more. */
    static void row(WaterByLetters w, long... due) {
        long[] got = Checks.rowOf(w);
        if (!Arrays.equals(got, due)) {
            fail("the row is " + Arrays.toString(got) + ", due is " + Arrays.toString(due));
        }
    }

    /** The ROW is the order of LETTERS that a text tells. */
    static void rowIsOrder(WaterByLetters w, String due) {
        long[] numbers = new long[due.length()];
        for (int i = 0; i < numbers.length; i++) {
            numbers[i] = due.charAt(i) - 'a';
        }
        row(w, numbers);
    }

    static void throwsNoSuch(String what, Checks.Call call) {
        try {
            call.run();
        } catch (NoSuchElementException e) {
            return;
        } catch (RuntimeException e) {
            fail(what + " threw " + e);
            return;
        }
        fail(what + " did not throw");
    }

    // ---- what changes nothing

    /** A town in which all has happened that can be kept, seen, undone, told; its TEXT is hd. */
    static WaterByLetters lived() {
        WaterByLetters w = Checks.town(FOUR);
        Checks.text(w, "0513").heat();
        Checks.text(w, "24-h*2-(d=2)*5-n").rule();
        w.keep(0);
        w.days(2);
        Checks.text(w, "cbadefgh").order();
        w.marry(3, 1);
        w.keep(2);
        Checks.text(w, "d1s").year();
        w.saw(0, 1);
        w.saw(2, 0);
        w.book();
        return Checks.text(w, "hd");
    }

    /** A call on a town that has lived answers this and changes nothing. */
    static void refused(String what, long due, ToLongFunction<WaterByLetters> call) {
        WaterByLetters one = lived();
        is(what, call.applyAsLong(one), due);
        alike(what, one, lived());
    }

    /** A call that reads THE TEXT answers this, empties it, and changes nothing else. */
    static void fault(String text, long due, ToLongFunction<WaterByLetters> call) {
        String what = "the call with '" + text + "'";
        WaterByLetters one = Checks.text(lived(), text);
        is(what, call.applyAsLong(one), due);
        alike(what, one, Checks.text(lived(), ""));
    }

    /** A question tells a ROW or none, and changes nothing else. */
    static void question(String what, ToLongFunction<WaterByLetters> call) {
        WaterByLetters one = lived();
        call.applyAsLong(one);
        one.book();
        alike(what, one, lived());
    }

    static void questionWithText(String text, ToLongFunction<WaterByLetters> call) {
        WaterByLetters one = Checks.text(lived(), text);
        call.applyAsLong(one);
        one.book();
        alike("the question with '" + text + "'", one, Checks.text(lived(), ""));
    }

    /** A call leaves the ROW that was told last. */
    static void leavesRow(String what, ToLongFunction<WaterByLetters> call) {
        WaterByLetters w = lived();
        w.dry(3, 1);
        long[] due = Checks.rowOf(w);
        call.applyAsLong(w);
        row(w, due);
    }

    static void alike(String what, WaterByLetters one, WaterByLetters other) {
        List<Long> got = allOf(one);
        List<Long> due = allOf(other);
        for (int i = 0; i < Math.max(got.size(), due.size()); i++) {
            if (i >= got.size() || i >= due.size() || !got.get(i).equals(due.get(i))) {
                fail(what + " changed something: all is " + got + ", due is " + due);
                return;
            }
        }
    }

    /** All that can be told of an object, in some 400 calls; it is used up by that. */
    private static List<Long> allOf(WaterByLetters w) {
        List<Long> all = new ArrayList<>();
        tellRow(w, all);
        for (int i = 0; i < 12; i++) {
            all.add((long) w.count(i));
        }
        if (w.count(11) > 0) {
            all.add((long) w.name(0));
            tellTown(w, all);
            w.undo();
        }
        tellTown(w, all);
        for (int house = 0; house < w.count(0); house++) {
            all.add((long) w.house(house, 1));
            all.add((long) w.house(house, 5));
        }
        for (int day = 0; day < 12; day++) {
            all.add((long) w.yields(day));
        }
        all.add((long) w.fits());
        tellRow(w, all);
        for (char letter : orderOf(w).toCharArray()) {
            all.add((long) letter);
        }
        for (int i = w.count(9); i > 0; i--) {
            all.add((long) w.undo());
            tellTown(w, all);
        }
        for (int i = 0; i < 3; i++) {
            all.add(w.again(i) ? 1L : 0L);
            tellTown(w, all);
        }
        return all;
    }

    private static void tellRow(WaterByLetters w, List<Long> all) {
        for (long number : Checks.rowOf(w)) {
            all.add(number);
        }
    }

    /** What is kept and undone. */
    private static void tellTown(WaterByLetters w, List<Long> all) {
        all.add((long) w.count(1));
        all.add((long) w.count(6));
        for (int house = 0; house < w.count(0); house++) {
            for (int what = 2; what <= 4; what++) {
                all.add((long) w.house(house, what));
            }
            int length = w.house(house, 0);
            for (int i = 0; i < length; i++) {
                all.add((long) w.letter(house, i));
            }
        }
    }

    /** THE ORDER as a text, by years that are undone (there must be room for one); THE TEXT is used up. */
    static String orderOf(WaterByLetters w) {
        StringBuilder order = new StringBuilder();
        order.append((char) ('a' + w.count(6)));
        for (int turns = 1; turns < 8; turns++) {
            Checks.text(w, "s".repeat(turns)).year();
            order.append((char) ('a' + w.count(6)));
            w.undo();
        }
        return order.toString();
    }
}
