import java.util.NoSuchElementException;
import java.util.Random;

/**
 * Long runs of drawn calls, held against the Model: each answer, the whole ROW and all that count() and
 * thing() tell. Anything that is thrown but NoSuchElementException ends the test.
 */
public final class FuzzTest {
    private static final int RUNS = 600;
    private static final int CALLS = 500;
    private static final String[] CALL_NAMES = {"text", "text", "text", "sign", "end", "things", "strings", "winds",
        "rule", "thing", "sheet", "hours", "hours", "lends", "lends", "lends", "gives", "ties", "ties", "pays",
        "digs", "night", "undo", "floats", "spare", "height", "gone", "ahead", "least", "surplus", "vital", "tie",
        "binds", "way", "serves", "owes", "seen", "forget", "fits", "looks", "lifts", "just", "evens", "order",
        "storm", "run", "law", "rests", "years", "keep", "again", "count", "row"};

    private final Random random;
    private final BorrowedWeight x = new BorrowedWeight();
    private final Model m = new Model();
    private final StringBuilder told = new StringBuilder();
    private final boolean wild;
    private boolean failed;

    private FuzzTest(long seed) {
        random = new Random(seed);
        wild = random.nextInt(4) == 0;
    }

    public static void main(String[] args) {
        int runs = args.length > 0 ? Integer.parseInt(args[0]) : RUNS;
        int first = args.length > 1 ? Integer.parseInt(args[1]) : 0;
        for (int seed = first; seed < first + runs; seed++) {
            new FuzzTest(seed).go(seed);
        }
        Check.close("FuzzTest");
    }

    private void go(int seed) {
        if (!wild) {
            bothText(things(1 + random.nextInt(8)));
            same("things()", x.things(), m.things());
        }
        for (int i = 0; i < CALLS && !failed; i++) {
            String name = CALL_NAMES[random.nextInt(CALL_NAMES.length)];
            if (!wild && random.nextInt(6) > 0 && ("things".equals(name) || "again".equals(name))) {
                continue;
            }
            step(name);
            state();
        }
        if (failed) {
            String all = told.toString();
            System.out.println("seed " + seed + ": .. " + all.substring(Math.max(0, all.length() - 1500)));
        }
    }

    private int thing() {
        return random.nextInt(12) == 0 ? odd() : random.nextInt(8);
    }

    private int odd() {
        int[] odd = {-1, 8, 9, 10, -2, 100, 255, 256, Integer.MAX_VALUE, Integer.MIN_VALUE, random.nextInt()};
        return odd[random.nextInt(odd.length)];
    }

    private int upTo(int most) {
        return random.nextInt(15) == 0 ? random.nextBoolean() ? odd() : most + 1 : random.nextInt(most + 1);
    }

    private String pick(String signs, int n) {
        StringBuilder s = new StringBuilder();
        for (int i = 0; i < n; i++) {
            s.append(signs.charAt(random.nextInt(signs.length())));
        }
        return s.toString();
    }

    private String things(int lines) {
        StringBuilder s = new StringBuilder();
        for (int i = 0; i < lines; i++) {
            s.append(i == 0 ? "" : ";").append(pick("123456789", 1));
        }
        return s.toString();
    }

    private String strings() {
        StringBuilder s = new StringBuilder();
        int lines = 1 + random.nextInt(random.nextInt(8) == 0 ? 14 : 5);
        int all = Math.max(2, m.count(0));
        for (int i = 0; i < lines; i++) {
            int one = random.nextInt(all);
            int other = (one + 1 + random.nextInt(all - 1)) % all;
            s.append(i == 0 ? "" : ";").append(one).append(other);
        }
        return s.toString();
    }

    private String expression(int depth) {
        switch (random.nextInt(depth > 5 ? 3 : 9)) {
            case 0:
            case 1:
                return pick("zwkghdin", 1);
            case 2:
                return pick("0123456789", 1 + random.nextInt(random.nextInt(6) == 0 ? 4 : 2));
            case 3:
                return "(" + expression(depth + 1) + ")";
            case 4:
                return "-" + expression(depth + 1);
            case 5:
                return expression(depth + 1) + pick("<>=", 1) + expression(depth + 1);
            default:
                return expression(depth + 1) + pick("+-*/", 1) + expression(depth + 1);
        }
    }

    private String night() {
        StringBuilder s = new StringBuilder();
        int acts = 1 + random.nextInt(random.nextInt(6) == 0 ? 30 : 6);
        for (int i = 0; i < acts; i++) {
            int kind = random.nextInt(5);
            s.append("nlgtp".charAt(kind)).append(pick("01234567", 1));
            if (kind > 0 && kind < 4) {
                s.append(pick(kind == 3 ? "01234567" : "1234", 1));
            }
        }
        return s.toString();
    }

    private String requests() {
        StringBuilder s = new StringBuilder();
        int lines = 1 + random.nextInt(9);
        for (int i = 0; i < lines; i++) {
            int from = random.nextInt(10);
            int to = random.nextInt(20) == 0 ? random.nextInt(10) : from + random.nextInt(10 - from);
            s.append(i == 0 ? "" : ";").append(from).append(to);
            s.append(pick("123456789", 1)).append(pick("0123456789", 1));
        }
        return s.toString();
    }

    /** Now and then a sign is wrong, missing or too many. */
    private String spoiled(String s) {
        if (random.nextInt(4) > 0) {
            return s;
        }
        int at = random.nextInt(s.length() + 1);
        String wrong = random.nextInt(5) == 0 ? String.valueOf((char) random.nextInt(256))
                : pick("0123456789;zwkghdin<>=+-*/()nlgtp", 1);
        switch (random.nextInt(4)) {
            case 0:
                return s.substring(0, at);
            case 1:
                return s.substring(0, at) + wrong + s.substring(at);
            case 2:
                return at < s.length() ? s.substring(0, at) + wrong + s.substring(at + 1) : s + wrong;
            default:
                return s + wrong;
        }
    }

    private void bothText(String s) {
        String cut = s.length() > 80 ? s.substring(0, 80) : s;
        told.append("text ").append(cut).append('\n');
        x.end(0);
        m.end(0);
        for (int at = 0; at < cut.length(); at += 4) {
            int v = 0;
            for (int i = at; i < at + 4; i++) {
                v = v << 8 | (i < cut.length() ? cut.charAt(i) : random.nextInt(256));
            }
            same("sign(" + v + ")", x.sign(v), m.sign(v));
        }
        same("end(" + cut.length() + ")", x.end(cut.length()) ? 1 : 0, m.end(cut.length()) ? 1 : 0);
    }

    private void same(String call, long got, long want) {
        told.append(call).append(" -> ").append(want).append('\n');
        Check.due(call, got, want);
        failed |= got != want;
    }

    private long rowOf(int i) {
        try {
            return x.row(i);
        } catch (NoSuchElementException e) {
            return Long.MIN_VALUE;
        }
    }

    private int thingOf(int thing, int what) {
        try {
            return x.thing(thing, what);
        } catch (NoSuchElementException e) {
            return Integer.MIN_VALUE;
        }
    }

    private void state() {
        int length = told.length();
        for (int what = -1; what <= 13; what++) {
            same("count(" + what + ")", x.count(what), m.count(what));
        }
        for (int i = -1; i <= m.count(11); i++) {
            same("row(" + i + ")", rowOf(i), m.row(i));
        }
        for (int i = 0; i < m.count(0); i++) {
            for (int what = 0; what <= 7; what++) {
                same("thing(" + i + ", " + what + ")", thingOf(i, what), m.thing(i, what));
            }
        }
        if (!failed) {
            told.setLength(length);
        }
    }

    private void step(String name) {
        int a = thing();
        int b = thing();
        switch (name) {
            case "text":
                readSomething();
                break;
            case "sign": {
                int v = random.nextInt();
                same("sign(" + v + ")", x.sign(v), m.sign(v));
                break;
            }
            case "end": {
                int n = upTo(80);
                same("end(" + n + ")", x.end(n) ? 1 : 0, m.end(n) ? 1 : 0);
                break;
            }
            case "things":
                same("things()", x.things(), m.things());
                break;
            case "strings":
                same("strings()", x.strings(), m.strings());
                break;
            case "winds":
                same("winds()", x.winds(), m.winds());
                break;
            case "rule":
                same("rule()", x.rule(), m.rule());
                break;
            case "thing":
                same("thing(" + a + ", " + b + ")", thingOf(a, b), m.thing(a, b));
                break;
            case "sheet": {
                int kind = random.nextInt(10) == 0 ? odd() : random.nextInt(4);
                int n = random.nextInt(8) == 0 ? odd() : random.nextInt(9);
                int f = random.nextBoolean() ? random.nextInt() : random.nextInt(10);
                int step = random.nextBoolean() ? random.nextInt(4) : random.nextInt();
                same("sheet(" + kind + ", " + n + ", " + f + ", " + step + ")", x.sheet(kind, n, f, step),
                        m.sheet(kind, n, f, step));
                break;
            }
            case "seen": {
                int n = upTo(20);
                int is = random.nextInt(12) == 0 ? odd() : random.nextInt(2);
                same("seen(" + a + ", " + n + ", " + is + ")", x.seen(a, n, is), m.seen(a, n, is));
                break;
            }
            default:
                if (!acts(name, a, b) && !asks(name, a) && !searches(name, a, b)) {
                    throw new IllegalStateException(name);
                }
        }
    }

    private void readSomething() {
        switch (random.nextInt(12)) {
            case 0:
                bothText(spoiled(things(1 + random.nextInt(8))));
                if (wild || random.nextInt(6) == 0) {
                    same("things()", x.things(), m.things());
                }
                break;
            case 1:
            case 2:
                bothText(spoiled(strings()));
                same("strings()", x.strings(), m.strings());
                break;
            case 3:
                bothText(spoiled(pick("0123456789", random.nextInt(5) == 0 ? 19 + random.nextInt(4) : 3)));
                same("winds()", x.winds(), m.winds());
                break;
            case 4:
            case 5:
                bothText(random.nextInt(4) == 0 ? "" : spoiled(expression(0)));
                same("rule()", x.rule(), m.rule());
                break;
            case 6:
            case 7:
                bothText(random.nextInt(9) == 0 ? "" : spoiled(expression(0)));
                same("law()", x.law(), m.law());
                break;
            case 8:
            case 9:
                bothText(spoiled(requests()));
                same("serves()", x.serves(), m.serves());
                break;
            default:
                bothText(spoiled(night()));
                same("night()", x.night(), m.night());
        }
    }

    private boolean acts(String name, int a, int b) {
        switch (name) {
            case "hours": {
                int n = random.nextInt(4) == 0 ? upTo(60) : random.nextInt(5);
                same("hours(" + n + ")", x.hours(n), m.hours(n));
                return true;
            }
            case "lends":
                same("lends(" + a + ", " + b + ")", x.lends(a, b), m.lends(a, b));
                return true;
            case "gives":
                same("gives(" + a + ", " + b + ")", x.gives(a, b), m.gives(a, b));
                return true;
            case "ties":
                same("ties(" + a + ", " + b + ")", x.ties(a, b), m.ties(a, b));
                return true;
            case "pays":
                same("pays(" + a + ")", x.pays(a), m.pays(a));
                return true;
            case "digs": {
                int n = random.nextBoolean() ? upTo(99) : random.nextInt(9);
                same("digs(" + n + ")", x.digs(n), m.digs(n));
                return true;
            }
            case "night":
                same("night()", x.night(), m.night());
                return true;
            case "undo":
                same("undo()", x.undo(), m.undo());
                return true;
            case "forget":
                same("forget()", x.forget(), m.forget());
                return true;
            case "keep": {
                int i = upTo(2);
                same("keep(" + i + ")", x.keep(i) ? 1 : 0, m.keep(i) ? 1 : 0);
                return true;
            }
            case "again": {
                int i = upTo(2);
                same("again(" + i + ")", x.again(i) ? 1 : 0, m.again(i) ? 1 : 0);
                return true;
            }
            default:
                return false;
        }
    }

    private boolean asks(String name, int a) {
        int n = upTo(99);
        switch (name) {
            case "floats":
                same("floats()", x.floats(), m.floats());
                return true;
            case "spare":
                same("spare(" + a + ")", x.spare(a), m.spare(a));
                return true;
            case "height":
                same("height(" + a + ", " + n + ")", x.height(a, n), m.height(a, n));
                return true;
            case "gone":
                same("gone(" + a + ")", x.gone(a), m.gone(a));
                return true;
            case "ahead":
                same("ahead(" + n + ")", x.ahead(n), m.ahead(n));
                return true;
            case "owes":
                same("owes(" + n + ")", x.owes(n), m.owes(n));
                return true;
            case "least": {
                int set = random.nextInt(10) == 0 ? odd() : random.nextInt(256) & m.count(1);
                same("least(" + set + ")", x.least(set), m.least(set));
                return true;
            }
            case "surplus":
                same("surplus()", x.surplus(), m.surplus());
                return true;
            case "vital":
                same("vital()", x.vital(), m.vital());
                return true;
            case "tie":
                same("tie()", x.tie(), m.tie());
                return true;
            case "order":
                same("order()", x.order(), m.order());
                return true;
            case "count":
                same("count(" + a + ")", x.count(a), m.count(a));
                return true;
            case "row":
                same("row(" + a + ")", rowOf(a), m.row(a));
                return true;
            default:
                return false;
        }
    }

    private boolean searches(String name, int a, int b) {
        switch (name) {
            case "binds":
                same("binds()", x.binds(), m.binds());
                return true;
            case "way":
                same("way(" + a + ", " + b + ")", x.way(a, b), m.way(a, b));
                return true;
            case "serves":
                same("serves()", x.serves(), m.serves());
                return true;
            case "fits":
                same("fits()", x.fits(), m.fits());
                return true;
            case "looks":
                if (random.nextInt(4) == 0) {
                    same("looks()", x.looks(), m.looks());
                }
                return true;
            case "lifts": {
                int v = random.nextBoolean() ? upTo(72) : random.nextInt(20);
                same("lifts(" + v + ")", x.lifts(v), m.lifts(v));
                return true;
            }
            case "just": {
                int v = random.nextBoolean() ? upTo(72) : random.nextInt(20);
                same("just(" + v + ")", x.just(v), m.just(v));
                return true;
            }
            case "evens":
                same("evens()", x.evens(), m.evens());
                return true;
            case "storm": {
                int p = upTo(10);
                same("storm(" + a + ", " + p + ")", x.storm(a, p), m.storm(a, p));
                return true;
            }
            case "run": {
                int one = upTo(20);
                int other = upTo(20);
                same("run(" + one + ", " + other + ")", x.run(one, other), m.run(one, other));
                return true;
            }
            case "law":
                same("law()", x.law(), m.law());
                return true;
            case "rests": {
                int v = upTo(20);
                same("rests(" + v + ")", x.rests(v), m.rests(v));
                return true;
            }
            case "years": {
                int seed = random.nextInt();
                int n = upTo(60);
                same("years(" + seed + ", " + n + ")", x.years(seed, n), m.years(seed, n));
                return true;
            }
            default:
                return false;
        }
    }
}
