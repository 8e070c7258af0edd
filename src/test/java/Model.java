import java.math.BigInteger;
import java.util.ArrayDeque;
import java.util.ArrayList;
import java.util.Arrays;
import java.util.Deque;
import java.util.LinkedHashMap;
import java.util.List;
import java.util.Map;
import java.util.TreeSet;
import java.util.function.IntPredicate;
import java.util.stream.IntStream;

/**
 * The document told a second time, as slowly and plainly as can be and by other means than the class
 * (sets, recursion, brute force), so that FuzzTest can hold one against the other.
 */
final class Model {
    /** A fault in a text, at a sign. */
    private static final class Fault extends RuntimeException {
        private static final long serialVersionUID = 1L;
        final int at;

        Fault(int at) {
            super(null, null, false, false);
            this.at = at;
        }
    }

    private static final class Being {
        int stones;
        int height;
        int debt;
        boolean gone;

        Being copy() {
            Being b = new Being();
            b.stones = stones;
            b.height = height;
            b.debt = debt;
            b.gone = gone;
            return b;
        }
    }

    private static final class World {
        final List<Being> beings = new ArrayList<>();
        /** Each string as 10 times the lesser and the greater. */
        final TreeSet<Integer> strings = new TreeSet<>();
        int stock = 30;
        int taken;
        int lost;
        int hour;

        World copy() {
            World w = new World();
            for (Being b : beings) {
                w.beings.add(b.copy());
            }
            w.strings.addAll(strings);
            w.stock = stock;
            w.taken = taken;
            w.lost = lost;
            w.hour = hour;
            return w;
        }
    }

    private World world = new World();
    private final List<Integer> sizes = new ArrayList<>();
    private String winds = "0";
    private String rule = "";
    private String text = "";
    private long[] row = {};
    private final Deque<World> past = new ArrayDeque<>();
    private final Map<Integer, World> kept = new LinkedHashMap<>();
    private final List<int[]> seen = new ArrayList<>();

    private void tell(long... numbers) {
        row = numbers;
    }

    private boolean is(int thing) {
        return thing >= 0 && thing < sizes.size();
    }

    // ---- rules

    private final class Reader {
        final String signs;
        final int thing;
        final World w;
        int at;

        Reader(String signs, int thing, World w) {
            this.signs = signs;
            this.thing = thing;
            this.w = w;
        }

        char next() {
            if (at == 40 && signs.length() > 40) {
                throw new Fault(40);
            }
            return at < signs.length() ? signs.charAt(at) : 0;
        }

        int whole() {
            int value = comparison(0);
            if (at < signs.length()) {
                throw new Fault(at);
            }
            return value;
        }

        int comparison(int depth) {
            int left = sum(depth);
            char c = next();
            if (c != 0 && "<>=".indexOf(c) >= 0) {
                at++;
                int right = sum(depth);
                int order = Integer.compare(left, right);
                return order == "<=>".indexOf(c) - 1 ? 1 : 0;
            }
            return left;
        }

        int sum(int depth) {
            int value = product(depth);
            while (next() == '+' || next() == '-') {
                boolean plus = next() == '+';
                at++;
                int other = product(depth);
                value = plus ? value + other : value - other;
            }
            return value;
        }

        int product(int depth) {
            int value = signed(depth);
            while (next() == '*' || next() == '/') {
                boolean times = next() == '*';
                at++;
                int other = signed(depth);
                value = times ? value * other : other == 0 ? 0 : (int) ((long) value / other);
            }
            return value;
        }

        int signed(int depth) {
            if (next() == '-') {
                at++;
                return -signed(depth);
            }
            return part(depth);
        }

        int part(int depth) {
            char c = next();
            if (c >= '0' && c <= '9') {
                int value = 0;
                for (int digits = 0; digits < 3 && next() >= '0' && next() <= '9'; digits++) {
                    value = value * 10 + next() - '0';
                    at++;
                }
                return value;
            }
            if (c == '(' && depth < 4) {
                at++;
                int value = comparison(depth + 1);
                if (next() != ')') {
                    throw new Fault(at);
                }
                at++;
                return value;
            }
            if (c == 0 || "zwkghdin".indexOf(c) < 0) {
                throw new Fault(at);
            }
            at++;
            return thing < 0 ? 1 : named(c);
        }

        int named(char c) {
            Being b = w.beings.get(thing);
            switch (c) {
                case 'z': return sizes.get(thing);
                case 'w': return wind(w);
                case 'k': return (int) w.strings.stream().filter(s -> s / 10 == thing || s % 10 == thing).count();
                case 'g': return b.stones;
                case 'h': return b.height;
                case 'd': return b.debt;
                case 'i': return thing;
                default: return w.hour % 7;
            }
        }
    }

    private int wind(World w) {
        return winds.charAt(w.hour % winds.length()) - '0';
    }

    private int need(World w, String by, int thing) {
        if (w.beings.get(thing).gone) {
            return 0;
        }
        int value = new Reader(by.isEmpty() ? "z/2+w/3" : by, thing, w).whole();
        return value < 0 ? 0 : value > 9 ? 9 : value;
    }

    private int[] needs(World w, String by) {
        int[] needs = new int[sizes.size()];
        Arrays.setAll(needs, i -> need(w, by, i));
        return needs;
    }

    // ---- bundles, hours

    private static int bundle(World w, int thing) {
        if (w.beings.get(thing).gone) {
            return 0;
        }
        int[] color = IntStream.range(0, w.beings.size()).toArray();
        for (int round = 0; round < 10; round++) {
            for (int s : w.strings) {
                int least = Math.min(color[s / 10], color[s % 10]);
                color[s / 10] = least;
                color[s % 10] = least;
            }
        }
        return set(w, i -> color[i] == color[thing]);
    }

    private static int set(World w, IntPredicate member) {
        return IntStream.range(0, w.beings.size()).filter(member).map(i -> 1 << i).sum();
    }

    private static TreeSet<Integer> bundles(World w) {
        TreeSet<Integer> all = new TreeSet<>();
        for (int i = 0; i < w.beings.size(); i++) {
            if (!w.beings.get(i).gone) {
                all.add(bundle(w, i));
            }
        }
        return all;
    }

    private static int stones(World w, int set) {
        return IntStream.range(0, w.beings.size()).filter(i -> (set >> i & 1) == 1)
                .map(i -> w.beings.get(i).stones).sum();
    }

    private static int total(int[] numbers, int set) {
        return IntStream.range(0, numbers.length).filter(i -> (set >> i & 1) == 1).map(i -> numbers[i]).sum();
    }

    private static int floating(World w, int[] needs) {
        return set(w, i -> {
            int b = bundle(w, i);
            return b != 0 && stones(w, b) < total(needs, b);
        });
    }

    private int floating(World w) {
        return floating(w, needs(w, rule));
    }

    private static int present(World w) {
        return set(w, i -> !w.beings.get(i).gone);
    }

    private int hour(World w) {
        int up = floating(w);
        int lost = 0;
        for (int i = 0; i < w.beings.size(); i++) {
            Being b = w.beings.get(i);
            int thing = i;
            if (b.gone) {
                continue;
            }
            if ((up >> i & 1) == 1 && b.height == 9) {
                b.gone = true;
                lost += b.stones;
                b.stones = 0;
                w.strings.removeIf(s -> s / 10 == thing || s % 10 == thing);
            } else {
                b.height += (up >> i & 1) == 1 ? 1 : b.height > 0 ? -1 : 0;
            }
        }
        w.lost = Math.min(999, w.lost + lost);
        for (Being b : w.beings) {
            if (!b.gone) {
                b.debt = Math.min(999, b.debt + b.stones);
            }
        }
        w.hour++;
        return lost;
    }

    private World later(int n) {
        World w = world.copy();
        for (int i = 0; i < n; i++) {
            hour(w);
        }
        return w;
    }

    private static int string(int one, int other) {
        return Math.min(one, other) * 10 + Math.max(one, other);
    }

    private void remember(World before) {
        past.addLast(before);
        if (past.size() > 15) {
            past.removeFirst();
        }
    }

    // ---- things, strings, winds

    int sign(int v) {
        if (text.length() + 4 > 80) {
            return -1;
        }
        for (byte b : BigInteger.valueOf(v & 0xffffffffL).add(BigInteger.ONE.shiftLeft(32)).toByteArray()) {
            text += (char) (b & 255);
        }
        text = text.substring(0, text.length() - 5) + text.substring(text.length() - 4);
        return text.length();
    }

    boolean end(int n) {
        if (n < 0 || n > text.length()) {
            return false;
        }
        text = text.substring(0, n);
        return true;
    }

    private String takeText() {
        String t = text;
        text = "";
        return t;
    }

    private static boolean digit(char c) {
        return "0123456789".indexOf(c) >= 0;
    }

    int things() {
        String t = takeText();
        if (t.isEmpty()) {
            return 0;
        }
        int lines = 0;
        for (int at = 0; ; at += 2) {
            if (at >= t.length() || t.charAt(at) < '1' || t.charAt(at) > '9' || sizes.size() + lines == 8) {
                return -1 - at;
            }
            lines++;
            if (at + 1 == t.length()) {
                break;
            }
            if (at + 1 == 15 || t.charAt(at + 1) != ';') {
                return -1 - (at + 1);
            }
        }
        for (String line : t.split(";")) {
            sizes.add(Integer.parseInt(line));
            world.beings.add(new Being());
        }
        past.clear();
        kept.clear();
        return lines;
    }

    int strings() {
        String t = takeText();
        for (int at = 0; at < t.length(); at++) {
            char c = t.charAt(at);
            if (at == 35) {
                return -36;
            }
            if (at % 3 == 2 ? c != ';' : !digit(c) || !is(c - '0') || world.beings.get(c - '0').gone
                    || at % 3 == 1 && c == t.charAt(at - 1)) {
                return -1 - at;
            }
        }
        if (!t.isEmpty() && t.length() % 3 != 2) {
            return -1 - t.length();
        }
        World before = world.copy();
        int tied = 0;
        for (String line : t.isEmpty() ? new String[0] : t.split(";")) {
            tied += world.strings.add(string(line.charAt(0) - '0', line.charAt(1) - '0')) ? 1 : 0;
        }
        if (tied > 0) {
            remember(before);
        }
        return tied;
    }

    int winds() {
        String t = takeText();
        int good = 0;
        while (good < t.length() && digit(t.charAt(good))) {
            good++;
        }
        if (good > 20 || good == 0 || good < t.length()) {
            return -1 - Math.min(good, 20);
        }
        winds = t;
        return good;
    }

    private static int NO_FAULT = -1;

    private int ruleFault(String t) {
        if (t.isEmpty()) {
            return NO_FAULT;
        }
        try {
            new Reader(t, -1, null).whole();
            return NO_FAULT;
        } catch (Fault f) {
            return f.at;
        }
    }

    int rule() {
        String t = takeText();
        int fault = ruleFault(t);
        if (fault != NO_FAULT) {
            return -1 - fault;
        }
        rule = t;
        return 0;
    }

    /** Integer.MIN_VALUE stands for the exception. */
    int thing(int thing, int what) {
        if (!is(thing) || what < 0 || what > 7) {
            return Integer.MIN_VALUE;
        }
        Being b = world.beings.get(thing);
        int ties = 0;
        for (int s : world.strings) {
            ties |= s / 10 == thing ? 1 << s % 10 : s % 10 == thing ? 1 << s / 10 : 0;
        }
        return new int[] {sizes.get(thing), b.stones, b.height, b.debt, b.gone ? 1 : 0, need(world, rule, thing),
            ties, bundle(world, thing)}[what];
    }

    int sheet(int kind, int n, int f, int step) {
        if (kind < 0 || kind > 3 || n > 8) {
            return -1;
        }
        if (kind < 3 && n < 0) {
            return -2;
        }
        int sum = 0;
        long entry = f;
        for (int i = 0; i < sizes.size(); i++) {
            int bits = (int) entry;
            int told = kind == 0 ? (byte) bits : kind == 1 ? (short) bits : bits;
            sizes.set(i, kind == 3 || i >= n ? 1 : Math.max(1, Math.min(9, told)));
            sum += sizes.get(i);
            entry += step;
        }
        return kind == 3 ? -3 : sum;
    }

    // ---- hours, loans, strings

    int hours(int n) {
        if (n < 0 || n > 60) {
            return -1;
        }
        remember(world.copy());
        return doHours(n);
    }

    private int doHours(int n) {
        int before = Integer.bitCount(present(world));
        int lost = 0;
        for (int i = 0; i < n; i++) {
            lost += hour(world);
        }
        tell(before - Integer.bitCount(present(world)), lost);
        return present(world);
    }

    private int done(World before, int answer) {
        if (answer >= 0) {
            remember(before);
        }
        return answer;
    }

    int lends(int thing, int n) {
        return done(world.copy(), doLends(world, thing, n));
    }

    private int doLends(World w, int thing, int n) {
        if (!is(thing) || n < 1 || n > 9) {
            return -1;
        }
        Being b = w.beings.get(thing);
        if (b.gone || w.stock < n || b.stones + n > 9) {
            return b.gone ? -2 : w.stock < n ? -3 : -4;
        }
        w.stock -= n;
        return b.stones += n;
    }

    int gives(int thing, int n) {
        return done(world.copy(), doGives(thing, n));
    }

    private int doGives(int thing, int n) {
        if (!is(thing) || n < 1 || n > 9) {
            return -1;
        }
        Being b = world.beings.get(thing);
        if (b.stones < n || world.stock + n > 99) {
            return b.stones < n ? -2 : -3;
        }
        b.stones -= n;
        return world.stock += n;
    }

    int ties(int one, int other) {
        return done(world.copy(), doTies(world, one, other));
    }

    private int doTies(World w, int one, int other) {
        if (!is(one) || !is(other) || one == other) {
            return -1;
        }
        if (w.beings.get(one).gone || w.beings.get(other).gone) {
            return -2;
        }
        if (!w.strings.remove(string(one, other))) {
            w.strings.add(string(one, other));
        }
        return w.strings.size();
    }

    int pays(int thing) {
        return done(world.copy(), doPays(thing));
    }

    private int doPays(int thing) {
        if (!is(thing)) {
            return -1;
        }
        int debt = world.beings.get(thing).debt;
        world.beings.get(thing).debt = 0;
        world.taken = Math.min(9999, world.taken + debt);
        return debt == 0 ? -2 : debt;
    }

    int digs(int n) {
        if (n < 1 || n > 99 || world.stock + n > 99) {
            return n < 1 || n > 99 ? -1 : -3;
        }
        remember(world.copy());
        return world.stock += n;
    }

    int night() {
        String t = takeText();
        List<String> acts = new ArrayList<>();
        String sofar = "";
        for (int at = 0; at < t.length(); at++) {
            sofar += t.charAt(at);
            if (at == 60 || !sofar.matches("[np][0-9]?|[lg]([0-9][1-9]?)?|t[0-9]{0,2}")) {
                return -1 - at;
            }
            if (sofar.matches("[np].|[lgt]..")) {
                acts.add(sofar);
                sofar = "";
            }
        }
        if (!sofar.isEmpty()) {
            return -1 - t.length();
        }
        World before = world.copy();
        int done = 0;
        boolean refused = false;
        for (String a : acts) {
            int one = a.charAt(1) - '0';
            int two = a.charAt(a.length() - 1) - '0';
            char c = a.charAt(0);
            int answer = c == 'n' ? doHours(one) : c == 'l' ? doLends(world, one, two)
                    : c == 'g' ? doGives(one, two) : c == 't' ? doTies(world, one, two) : doPays(one);
            if (answer < 0) {
                refused = true;
                break;
            }
            done++;
        }
        if (done > 0) {
            remember(before);
        }
        tell(refused ? 1 : 0, world.stock);
        return done;
    }

    int undo() {
        if (past.isEmpty()) {
            return -1;
        }
        world = past.removeLast();
        return past.size();
    }

    // ---- what floats

    int floats() {
        int up = floating(world);
        tell(bundles(world).size(), bundles(world).stream().filter(b -> (b & up) != 0).count());
        return up;
    }

    int spare(int thing) {
        if (!is(thing) || world.beings.get(thing).gone) {
            return is(thing) ? -2 : -1;
        }
        int b = bundle(world, thing);
        tell(stones(world, b), total(needs(world, rule), b));
        return (int) (1000 + row[0] - row[1]);
    }

    int height(int thing, int n) {
        if (!is(thing) || n < 0 || n > 99) {
            return -1;
        }
        Being b = later(n).beings.get(thing);
        tell(b.gone ? 1 : 0, b.debt);
        return b.gone ? 9 : b.height;
    }

    int gone(int thing) {
        if (!is(thing)) {
            return -1;
        }
        World w = world.copy();
        for (int h = 0; h <= 99; h++) {
            if (w.beings.get(thing).gone) {
                tell(w.beings.stream().filter(b -> b.gone).count() - 1);
                return h;
            }
            hour(w);
        }
        return -2;
    }

    int ahead(int n) {
        if (n < 0 || n > 99) {
            return -1;
        }
        World w = later(n);
        tell(w.beings.stream().mapToLong(b -> b.stones).toArray());
        return (int) Arrays.stream(row).sum();
    }

    // ---- what holds

    int least(int things) {
        if (things < 0 || things >= 1 << sizes.size()) {
            return -1;
        }
        if ((things & present(world)) != things) {
            return -2;
        }
        int[] needs = needs(world, rule);
        int lent = 0;
        int many = 0;
        int bits = 0;
        for (int b : bundles(world)) {
            int lack = total(needs, b) - stones(world, b);
            if ((b & things) != 0 && lack > 0) {
                lent += lack;
                many++;
                bits |= b;
            }
        }
        tell(many, bits);
        return lent;
    }

    int surplus() {
        int[] needs = needs(world, rule);
        World w = world.copy();
        long[] given = new long[sizes.size()];
        for (int i = 0; i < given.length; i++) {
            int b = bundle(w, i);
            while (b != 0 && w.beings.get(i).stones > 0 && stones(w, b) > total(needs, b)) {
                w.beings.get(i).stones--;
                given[i]++;
            }
        }
        tell(given);
        return (int) Arrays.stream(given).sum();
    }

    int vital() {
        int up = floating(world);
        int many = 0;
        tell(world.strings.size());
        for (int s : world.strings) {
            World w = world.copy();
            w.strings.remove(s);
            if ((floating(w) & ~up) != 0) {
                if (many == 0) {
                    tell(world.strings.size(), s / 10, s % 10);
                }
                many++;
            }
        }
        return many;
    }

    int tie() {
        int best = 99;
        for (int one = 0; one < sizes.size(); one++) {
            for (int other = one + 1; other < sizes.size(); other++) {
                World w = world.copy();
                if (w.beings.get(one).gone || w.beings.get(other).gone || !w.strings.add(string(one, other))) {
                    continue;
                }
                int up = Integer.bitCount(floating(w));
                if (up < best) {
                    best = up;
                    tell(one, other, Integer.bitCount(floating(world)));
                }
            }
        }
        return best == 99 ? -2 : best;
    }

    /** Tries every way to lay bundles into groups, one by one. */
    private static int groups(List<Integer> excess, int next, List<Integer> sums) {
        if (next == excess.size()) {
            return sums.stream().allMatch(s -> s >= 0) ? sums.size() : -1;
        }
        int best = -1;
        for (int g = 0; g <= sums.size(); g++) {
            List<Integer> more = new ArrayList<>(sums);
            if (g == sums.size()) {
                more.add(0);
            }
            more.set(g, more.get(g) + excess.get(next));
            best = Math.max(best, groups(excess, next + 1, more));
        }
        return best;
    }

    int binds() {
        int[] needs = needs(world, rule);
        List<Integer> excess = new ArrayList<>();
        for (int b : bundles(world)) {
            excess.add(stones(world, b) - total(needs, b));
        }
        int most = groups(excess, 0, List.of());
        if (most < 0) {
            return -2;
        }
        tell(most);
        return excess.size() - most;
    }

    private void ways(List<Integer> way, int to, List<List<Integer>> found) {
        int last = way.get(way.size() - 1);
        if (last == to) {
            found.add(way);
            return;
        }
        for (int i = 0; i < sizes.size(); i++) {
            if (!way.contains(i) && world.strings.contains(string(last, i))) {
                List<Integer> longer = new ArrayList<>(way);
                longer.add(i);
                ways(longer, to, found);
            }
        }
    }

    int way(int from, int to) {
        if (!is(from) || !is(to)) {
            return -1;
        }
        List<List<Integer>> found = new ArrayList<>();
        if (!world.beings.get(from).gone) {
            ways(List.of(from), to, found);
        }
        List<Integer> best = null;
        for (List<Integer> w : found) {
            if (best == null || w.size() < best.size()) {
                best = w;
            }
        }
        if (best == null) {
            return -2;
        }
        tell(best.stream().mapToLong(i -> i).toArray());
        return best.size() - 1;
    }

    // ---- loans

    int serves() {
        String t = takeText();
        for (int at = 0; at < t.length(); at++) {
            char c = t.charAt(at);
            boolean good = at < 40 && (at % 5 == 4 ? c == ';' : digit(c)
                    && !(at % 5 == 1 && c < t.charAt(at - 1)) && !(at % 5 == 2 && c == '0'));
            if (!good) {
                return -1 - at;
            }
        }
        if ((t.length() + 1) % 5 != 0) {
            return -1 - t.length();
        }
        String[] lines = t.split(";");
        int best = -1;
        int bits = 0;
        for (int many = 0; many <= lines.length; many++) {
            for (int set = 0; set < 1 << lines.length; set++) {
                int price = 0;
                int[] load = new int[10];
                for (int i = 0; i < lines.length; i++) {
                    if ((set >> i & 1) == 1) {
                        price += lines[i].charAt(3) - '0';
                        for (int h = lines[i].charAt(0); h <= lines[i].charAt(1); h++) {
                            load[h - '0'] += lines[i].charAt(2) - '0';
                        }
                    }
                }
                boolean can = Arrays.stream(load).allMatch(l -> l <= world.stock);
                if (Integer.bitCount(set) == many && can && price > best) {
                    best = price;
                    bits = set;
                }
            }
        }
        tell(bits);
        return best;
    }

    int owes(int n) {
        if (n < 0 || n > 99) {
            return -1;
        }
        if (sizes.isEmpty()) {
            return -2;
        }
        int[] debts = later(n).beings.stream().mapToInt(b -> b.debt).toArray();
        int most = Arrays.stream(debts).max().getAsInt();
        tell(most, Arrays.stream(debts).sum());
        return IntStream.range(0, debts.length).filter(i -> debts[i] == most).findFirst().getAsInt();
    }

    // ---- who has it

    int seen(int thing, int n, int is) {
        if (!is(thing) || n < 0 || n > 20 || is != 0 && is != 1 || seen.size() == 10) {
            return -1;
        }
        seen.add(new int[] {thing, n, is});
        return seen.size();
    }

    int forget() {
        int many = seen.size();
        seen.clear();
        return many;
    }

    private int floatsWith(int holder, int thing, int n) {
        World w = world.copy();
        if (holder >= 0) {
            w.beings.get(holder).stones++;
        }
        for (int i = 0; i < n; i++) {
            hour(w);
        }
        return floating(w) >> thing & 1;
    }

    private boolean fitsWith(int holder) {
        return seen.stream().allMatch(s -> floatsWith(holder, s[0], s[1]) == s[2]);
    }

    private int fitting() {
        return set(world, i -> !world.beings.get(i).gone && fitsWith(i));
    }

    int fits() {
        int fitting = fitting();
        tell(Integer.bitCount(fitting), fitsWith(-1) ? 1 : 0);
        return fitting;
    }

    int looks() {
        int fitting = fitting();
        if (fitting == 0) {
            return -2;
        }
        int best = 99;
        int place = 0;
        for (int code = 0; code < 21 * sizes.size(); code++) {
            int[] left = new int[2];
            for (int holder = 0; holder < sizes.size(); holder++) {
                if ((fitting >> holder & 1) == 1) {
                    left[floatsWith(holder, code / 21, code % 21)]++;
                }
            }
            if (Math.max(left[0], left[1]) < best) {
                best = Math.max(left[0], left[1]);
                place = code;
            }
        }
        tell(best);
        return place;
    }

    // ---- lifts, balances

    int lifts(int v) {
        if (v < 1 || v > 72) {
            return -1;
        }
        for (int many = 0; many <= sizes.size(); many++) {
            for (int set = 0; set < 1 << sizes.size(); set++) {
                if (Integer.bitCount(set) == many && stones(world, set) >= v) {
                    tell(set);
                    return many;
                }
            }
        }
        return -2;
    }

    int just(int v) {
        if (v < 0 || v > 72) {
            return -1;
        }
        long ways = IntStream.range(0, 1 << sizes.size()).filter(s -> stones(world, s) == v).count();
        for (int many = 0; many <= sizes.size(); many++) {
            for (int set = 0; set < 1 << sizes.size(); set++) {
                if (Integer.bitCount(set) == many && stones(world, set) == v) {
                    tell(set, ways);
                    return many;
                }
            }
        }
        return -2;
    }

    int evens() {
        int all = (1 << sizes.size()) - 1;
        for (int apart = 0; ; apart++) {
            for (int set = 0; set <= all; set++) {
                if (Math.abs(stones(world, set) - stones(world, all & ~set)) == apart) {
                    tell(set, stones(world, set));
                    return apart;
                }
            }
        }
    }

    int order() {
        int[] needs = needs(world, rule);
        tell(IntStream.range(0, sizes.size()).filter(i -> !world.beings.get(i).gone).boxed()
                .sorted((a, b) -> (world.beings.get(b).stones - needs[b]) - (world.beings.get(a).stones - needs[a]))
                .mapToLong(i -> i).toArray());
        return row.length;
    }

    // ---- storms, a run

    private BigInteger breaks(World w, List<Integer> left, int thing, int p, int[] needs) {
        if (left.isEmpty()) {
            int b = bundle(w, thing);
            return stones(w, b) >= total(needs, b) ? BigInteger.ONE : BigInteger.ZERO;
        }
        List<Integer> rest = left.subList(1, left.size());
        BigInteger whole = breaks(w, rest, thing, p, needs).multiply(BigInteger.valueOf(10 - p));
        w.strings.remove(left.get(0));
        BigInteger broken = breaks(w, rest, thing, p, needs).multiply(BigInteger.valueOf(p));
        w.strings.add(left.get(0));
        return whole.add(broken);
    }

    int storm(int thing, int p) {
        if (!is(thing) || p < 0 || p > 10) {
            return -1;
        }
        if (world.beings.get(thing).gone || world.strings.size() > 12) {
            return -2;
        }
        BigInteger upper = breaks(world.copy(), new ArrayList<>(world.strings), thing, p, needs(world, rule));
        BigInteger lower = BigInteger.TEN.pow(world.strings.size());
        BigInteger g = upper.gcd(lower);
        tell(upper.divide(g).longValueExact(), lower.divide(g).longValueExact());
        return 0;
    }

    private final Map<Integer, int[]> runs = new LinkedHashMap<>();

    private int[] bestMove(int a, int b) {
        if (!runs.containsKey(a * 100 + b)) {
            int[] found = null;
            for (int x = 0; x <= 2; x++) {
                for (int y = 0; y <= 2; y++) {
                    boolean isMove = x + y > 0 && x + y <= 2 && x <= a && y <= b;
                    if (isMove && found == null && bestMove(a - x, b - y) == null) {
                        found = new int[] {x, y};
                    }
                }
            }
            runs.put(a * 100 + b, found);
        }
        return runs.get(a * 100 + b);
    }

    int run(int a, int b) {
        if (a < 0 || a > 20 || b < 0 || b > 20) {
            return -1;
        }
        int[] move = bestMove(a, b);
        if (move == null) {
            tell();
            return 0;
        }
        tell(move[0], move[1]);
        return 1;
    }

    // ---- laws, rests, years

    int law() {
        String t = takeText();
        int fault = ruleFault(t);
        if (fault != NO_FAULT) {
            return -10000 - fault;
        }
        int[] needs = needs(world, t);
        long[] told = new long[2 + needs.length];
        told[0] = Integer.bitCount(floating(world, needs));
        told[1] = Integer.bitCount(floating(world));
        for (int i = 0; i < needs.length; i++) {
            told[2 + i] = needs[i];
        }
        tell(told);
        return (int) (told[0] - told[1]);
    }

    int rests(int v) {
        if (v < 0 || v > 20) {
            return -1;
        }
        int[][] gain = new int[10][10];
        for (int x = 0; x < 10; x++) {
            for (int y = 0; y < 10; y++) {
                gain[x][y] = x > y ? v - (x + y) / 2 : x == y ? v / 3 : 0;
            }
        }
        int many = 0;
        tell();
        for (int x = 0; x < 10; x++) {
            for (int y = 0; y < 10; y++) {
                int px = x;
                int py = y;
                boolean rests = IntStream.range(0, 10).noneMatch(
                        o -> gain[o][py] > gain[px][py] || gain[o][px] > gain[py][px]);
                if (rests) {
                    if (many == 0) {
                        tell(x, y);
                    }
                    many++;
                }
            }
        }
        return many;
    }

    private int luck;

    private int draw(int n) {
        luck = luck * 1103515245 + 12345;
        return (int) (((luck & 0xffffffffL) / 65536) % n);
    }

    int years(int seed, int n) {
        if (n < 1 || n > 60) {
            return -1;
        }
        World w = world.copy();
        luck = seed;
        int lost = 0;
        for (int i = 0; i < n; i++) {
            int kind = draw(4);
            if (kind < 2) {
                lost += hour(w);
            } else if (!sizes.isEmpty() && kind == 2) {
                int thing = draw(sizes.size());
                doLends(w, thing, draw(3) + 1);
            } else if (!sizes.isEmpty()) {
                int one = draw(sizes.size());
                doTies(w, one, draw(sizes.size()));
            }
        }
        tell(w.stock, lost);
        return present(w);
    }

    // ---- kept

    boolean keep(int i) {
        if (i < 0 || i > 2) {
            return false;
        }
        kept.put(i, world.copy());
        return true;
    }

    boolean again(int i) {
        if (!kept.containsKey(i)) {
            return false;
        }
        world = kept.get(i).copy();
        past.clear();
        return true;
    }

    int count(int what) {
        int[] all = {sizes.size(), present(world), world.strings.size(), world.stock, world.taken, world.lost,
            world.hour, wind(world), stones(world, 255), seen.size(), past.size(), row.length, text.length()};
        return what < 0 || what >= all.length ? -100 : all[what];
    }

    /** Long.MIN_VALUE stands for the exception. */
    long row(int i) {
        return i < 0 || i >= row.length ? Long.MIN_VALUE : row[i];
    }
}
