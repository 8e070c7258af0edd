import java.lang.reflect.InvocationTargetException;
import java.lang.reflect.Method;
import java.util.Arrays;
import java.util.Comparator;
import java.util.NoSuchElementException;
import java.util.Set;
import java.util.function.BooleanSupplier;
import java.util.function.IntSupplier;

/**
 * What the tests of boundary cases share. A test is a static method without parameters whose name begins with
 * its promise: pNN_; it is found by that name, so that none is left out of a list.
 */
abstract class Boundaries {
    static final int MIN = Integer.MIN_VALUE;
    static final int MAX = Integer.MAX_VALUE;

    /** Runs the tests of a class and puts the promises that they are of into a set. */
    static void runAll(Class<? extends Boundaries> tests, Set<Integer> promises) {
        Method[] methods = tests.getDeclaredMethods();
        Arrays.sort(methods, Comparator.comparing(Method::getName));
        for (Method m : methods) {
            if (m.getName().matches("p[0-9]{2}_.*")) {
                promises.add(Integer.parseInt(m.getName().substring(1, 3)));
                runOne(m);
            }
        }
    }

    private static void runOne(Method test) {
        Check.enter(test.getName());
        int asked = Check.asked();
        try {
            test.invoke(null);
        } catch (InvocationTargetException | IllegalAccessException e) {
            Check.fail("ended by " + (e.getCause() == null ? e : e.getCause()));
        }
        if (Check.asked() == asked) {
            Check.fail("asks nothing");
        }
        Check.enter("");
    }

    static void due(String what, long got, long want) {
        Check.due(what, got, want);
    }

    static BorrowedWeight with(String things, String strings) {
        return Check.with(things, strings);
    }

    static BorrowedWeight text(BorrowedWeight x, String signs) {
        return Check.text(x, signs);
    }

    /** An object with things and a rule. */
    static BorrowedWeight ruled(String things, String rule) {
        BorrowedWeight x = with(things, "");
        due("rule " + rule, text(x, rule).rule(), 0);
        return x;
    }

    /** All of eight things with nine stones each: none of 30 and 42 dug ones is left. */
    static BorrowedWeight full() {
        BorrowedWeight x = with("1;1;1;1;1;1;1;1", "");
        x.digs(42);
        for (int i = 0; i < 8; i++) {
            due("nine for " + i, x.lends(i, 9), 9);
        }
        return x;
    }

    /** One of everything: 0 is GONE, 1 and 2 are tied and DOWN, 3 FLOATS at height 2. */
    static BorrowedWeight rich() {
        BorrowedWeight x = with("9;4;6;8", "12");
        text(x, "357").winds();
        text(x, "z/2+w/9").rule();
        x.lends(0, 2);
        x.lends(1, 3);
        x.lends(2, 3);
        x.lends(3, 4);
        x.hours(10);
        x.pays(1);
        x.gives(3, 1);
        x.keep(1);
        x.hours(2);
        x.seen(1, 3, 0);
        x.seen(3, 0, 1);
        x.least(8);
        return x;
    }

    /** Things that need 4, 1 and 1 stones and have one each: the first is GONE by now. */
    static BorrowedWeight oneGone() {
        BorrowedWeight x = with("9;2;3", "");
        x.lends(0, 1);
        x.lends(1, 1);
        x.lends(2, 1);
        x.hours(10);
        return x;
    }

    /** Both things are GONE. */
    static BorrowedWeight allGone() {
        BorrowedWeight x = with("9;9", "01");
        x.hours(10);
        return x;
    }

    /** All that count(), thing() and row() tell, but for THE TEXT. */
    static String view(BorrowedWeight x) {
        StringBuilder s = new StringBuilder();
        for (int what = 0; what <= 11; what++) {
            s.append(x.count(what)).append(' ');
        }
        for (int i = 0; i < x.count(0); i++) {
            for (int what = 0; what <= 7; what++) {
                s.append(what == 0 ? " | " : ",").append(x.thing(i, what));
            }
        }
        for (int i = 0; i < x.count(11); i++) {
            s.append(i == 0 ? " row " : ",").append(x.row(i));
        }
        return s.toString();
    }

    /** A call that is not done: its answer, and nothing else changes, not THE TEXT, too. */
    static void refused(String what, BorrowedWeight x, int want, IntSupplier call) {
        int signs = x.count(12);
        x.sign(0x31323334);
        int more = x.count(12);
        String before = view(x);
        due(what, call.getAsInt(), want);
        unchanged(what, x, before);
        due(what + ": signs of THE TEXT", x.count(12), more);
        x.end(signs);
    }

    static void refusedFlag(String what, BorrowedWeight x, BooleanSupplier call) {
        refused(what, x, 0, () -> call.getAsBoolean() ? 1 : 0);
    }

    /** A call that reads a text that can't be: it empties THE TEXT, and nothing else changes. */
    static void refusedText(BorrowedWeight x, String signs, int want, IntSupplier call) {
        text(x, signs);
        String before = view(x);
        due("text " + signs, call.getAsInt(), want);
        unchanged("text " + signs, x, before);
        due("text " + signs + ": signs of THE TEXT", x.count(12), 0);
    }

    static void unchanged(String what, BorrowedWeight x, String before) {
        String after = view(x);
        Check.yes(what + " changed " + before + " to " + after, after.equals(before));
    }

    /** Calls one after another, each of which is refused with NONE. */
    static void none(String what, BorrowedWeight x, IntSupplier... calls) {
        for (int i = 0; i < calls.length; i++) {
            refused(what + " " + i, x, BorrowedWeight.NONE, calls[i]);
        }
    }

    static void row(String what, BorrowedWeight x, long got, long want, long... numbers) {
        Check.row(what, x, got, want, numbers);
    }

    static void thingThrows(BorrowedWeight x, int thing, int what) {
        refused("thing(" + thing + ", " + what + ")", x, 1, () -> {
            try {
                x.thing(thing, what);
                return 0;
            } catch (NoSuchElementException e) {
                return 1;
            }
        });
    }

    static void rowThrows(BorrowedWeight x, int i) {
        refused("row(" + i + ")", x, 1, () -> {
            try {
                x.row(i);
                return 0;
            } catch (NoSuchElementException e) {
                return 1;
            }
        });
    }

    static String times(int n, String part) {
        return part.repeat(n);
    }
}
