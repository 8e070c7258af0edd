import java.util.NoSuchElementException;

/** What the tests share: they count wrong answers and end with exit code 1 if there was one. */
final class Check {
    private static int wrong = 0;
    private static int asked = 0;
    private static String place = "";

    private Check() {
    }

    /** Names the test that is running, for what fails in it. */
    static void enter(String test) {
        place = test.isEmpty() ? "" : test + ": ";
    }

    static int asked() {
        return asked;
    }

    static void due(String what, long got, long want) {
        asked++;
        if (got != want) {
            fail(what + " answered " + got + ", due is " + want);
        }
    }

    static void yes(String what, boolean got) {
        due(what, got ? 1 : 0, 1);
    }

    static void no(String what, boolean got) {
        due(what, got ? 1 : 0, 0);
    }

    static void fail(String message) {
        wrong++;
        if (wrong <= 40) {
            System.out.println(place + message);
        }
    }

    /** An answer and the whole ROW behind it. */
    static void row(String what, BorrowedWeight x, long got, long want, long... numbers) {
        due(what, got, want);
        due(what + ": numbers of the ROW", x.count(11), numbers.length);
        for (int i = 0; i < numbers.length && i < x.count(11); i++) {
            due(what + ": row(" + i + ")", x.row(i), numbers[i]);
        }
        rowThrows(what, x, numbers.length);
        rowThrows(what, x, -1);
    }

    static void rowThrows(String what, BorrowedWeight x, int i) {
        asked++;
        try {
            x.row(i);
            fail(what + ": row(" + i + ") did not throw");
        } catch (NoSuchElementException e) {
            return;
        }
    }

    static void thingThrows(BorrowedWeight x, int thing, int what) {
        asked++;
        try {
            x.thing(thing, what);
            fail("thing(" + thing + ", " + what + ") did not throw");
        } catch (NoSuchElementException e) {
            return;
        }
    }

    /** Puts a text into THE TEXT, in place of what was there. */
    static BorrowedWeight text(BorrowedWeight x, String signs) {
        x.end(0);
        for (int at = 0; at < signs.length(); at += 4) {
            int v = 0;
            for (int i = at; i < at + 4; i++) {
                v = v << 8 | (i < signs.length() ? signs.charAt(i) & 255 : 0);
            }
            x.sign(v);
        }
        x.end(signs.length());
        return x;
    }

    /** An object with things and strings. */
    static BorrowedWeight with(String things, String strings) {
        BorrowedWeight x = new BorrowedWeight();
        text(x, things).things();
        text(x, strings).strings();
        return x;
    }

    static void close(String name) {
        System.out.println(name + ": " + asked + " asked, " + wrong + " wrong");
        if (wrong != 0) {
            System.exit(1);
        }
    }
}
