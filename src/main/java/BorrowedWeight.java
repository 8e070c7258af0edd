import java.util.NoSuchElementException;

/** The house by the ferry, and all that it keeps down; the document tells what each call answers. */
public final class BorrowedWeight {
    public static final int NONE = -1;

    private static final int MOST_THINGS = 8;
    private static final int MOST_STONES = 9;
    private static final int MOST_HEIGHT = 9;
    private static final int MOST_DEBT = 999;
    private static final int MOST_LOST = 999;
    private static final int MOST_TAKEN = 9999;
    private static final int MOST_STOCK = 99;
    private static final int FIRST_STOCK = 30;
    private static final int MOST_HOURS = 60;
    private static final int MOST_AHEAD = 99;
    private static final int MOST_LOADED = 72;
    private static final int MOST_STORM_STRINGS = 12;
    private static final int MOST_LOANS = 20;
    private static final int MOST_OFFER = 9;
    private static final int MOST_WORTH = 20;
    private static final int MOST_REQUESTS = 8;
    private static final int SETS = 256;

    private static final int TEXT_SIGNS = 80;
    private static final int THINGS_SIGNS = 15;
    private static final int STRINGS_SIGNS = 35;
    private static final int WINDS_SIGNS = 20;
    private static final int RULE_SIGNS = 40;
    private static final int NIGHT_SIGNS = 60;
    private static final int REQUEST_SIGNS = 5;

    /** What a reader of a text answers when every sign can stand where it is. */
    private static final int FAULTLESS = -1;

    private static final char[] PLAIN_RULE = {'z', '/', '2', '+', 'w', '/', '3'};

    /** Moves of a run, the least row first. */
    private static final int[] MOVE_FIRST = {0, 0, 1, 1, 2};
    private static final int[] MOVE_SECOND = {1, 2, 0, 1, 0};

    private final Text text;
    private final Row told;
    private final Land land;
    private final State now;
    private final State then;
    private final Past past;
    private final Shelf shelf;
    private final Watch watch;
    private final int[] shares;
    private final int[] sums;
    private final int[] best;
    private final int[] tally;
    private final int[] stringOne;
    private final int[] stringOther;
    private final boolean[] lost;

    public BorrowedWeight() {
        text = new Text();
        told = new Row();
        land = new Land();
        now = new State();
        then = new State();
        past = new Past();
        shelf = new Shelf();
        watch = new Watch();
        shares = new int[MOST_THINGS];
        sums = new int[SETS];
        best = new int[SETS];
        tally = new int[MOST_STORM_STRINGS + 1];
        stringOne = new int[MOST_STORM_STRINGS];
        stringOther = new int[MOST_STORM_STRINGS];
        lost = new boolean[(MOST_LOANS + 1) * (MOST_LOANS + 1)];
    }

    // ---- things, strings, winds

    public int sign(int v) {
        return text.add(v);
    }

    public boolean end(int n) {
        return text.cut(n);
    }

    public int things() {
        int fault = faultOfThings();
        int lines = (text.length + 1) / 2;
        if (fault == FAULTLESS && lines > 0) {
            for (int line = 0; line < lines; line++) {
                land.addThing(text.digitAt(2 * line));
            }
            past.clear();
            shelf.clear();
        }
        text.clear();
        return fault == FAULTLESS ? lines : -1 - fault;
    }

    public int strings() {
        int fault = faultOfStrings();
        int tied = 0;
        if (fault == FAULTLESS) {
            past.draw(now);
            tied = tieTold();
            if (tied > 0) {
                past.commit();
            }
        }
        text.clear();
        return fault == FAULTLESS ? tied : -1 - fault;
    }

    public int winds() {
        int fault = faultOfWinds();
        int signs = text.length;
        if (fault == FAULTLESS) {
            land.setWinds(text);
        }
        text.clear();
        return fault == FAULTLESS ? signs : -1 - fault;
    }

    public int rule() {
        int fault = readDraft();
        if (fault != FAULTLESS) {
            return -1 - fault;
        }
        land.adoptDraft();
        return 0;
    }

    public int thing(int thing, int what) throws NoSuchElementException {
        if (!land.isThing(thing)) {
            throw new NoSuchElementException("no such thing");
        }
        switch (what) {
            case 0:
                return land.sizes[thing];
            case 1:
                return now.stones[thing];
            case 2:
                return now.heights[thing];
            case 3:
                return now.debts[thing];
            case 4:
                return now.isGone(thing) ? 1 : 0;
            case 5:
                land.weigh(now, land.rule);
                return land.needs[thing];
            case 6:
                return now.links[thing];
            case 7:
                return now.isGone(thing) ? 0 : now.bundleOf(thing);
            default:
                throw new NoSuchElementException("no such what");
        }
    }

    public int sheet(int kind, int n, int f, int step) {
        if (kind < 0 || kind > 3 || n > MOST_THINGS) {
            return NONE;
        }
        if (kind == 3) {
            land.setSizes(kind, 0, f, step);
            return -3;
        }
        if (n < 0) {
            return -2;
        }
        return land.setSizes(kind, n, f, step);
    }

    // ---- hours, loans, strings

    public int hours(int n) {
        if (n < 0 || n > MOST_HOURS) {
            return NONE;
        }
        past.draw(now);
        past.commit();
        int goneBefore = Integer.bitCount(now.goneSet);
        int lostStones = land.passHours(now, n);
        told.tell(Integer.bitCount(now.goneSet) - goneBefore, lostStones);
        return land.present(now);
    }

    public int lends(int thing, int n) {
        past.draw(now);
        return past.settle(land.lend(now, thing, n));
    }

    public int gives(int thing, int n) {
        past.draw(now);
        return past.settle(land.takeBack(now, thing, n));
    }

    public int ties(int one, int other) {
        past.draw(now);
        return past.settle(land.tieOrCut(now, one, other));
    }

    public int pays(int thing) {
        past.draw(now);
        return past.settle(land.takeDebt(now, thing));
    }

    public int digs(int n) {
        if (n < 1 || n > MOST_STOCK) {
            return NONE;
        }
        if (now.stock + n > MOST_STOCK) {
            return -3;
        }
        past.draw(now);
        past.commit();
        now.stock += n;
        return now.stock;
    }

    public int night() {
        int fault = faultOfNight();
        if (fault != FAULTLESS) {
            text.clear();
            return -1 - fault;
        }
        past.draw(now);
        int done = 0;
        boolean refused = false;
        for (int at = 0; at < text.length && !refused; at += 1 + digitsBehind(text.at(at))) {
            if (act(at) < 0) {
                refused = true;
            } else {
                done++;
            }
        }
        if (done > 0) {
            past.commit();
        }
        text.clear();
        told.tell(refused ? 1 : 0, now.stock);
        return done;
    }

    public int undo() {
        return past.bringBack(now);
    }

    // ---- what floats

    public int floats() {
        int floating = land.floating(now, land.rule);
        int light = 0;
        for (int b = 0; b < land.bundleCount; b++) {
            if ((floating & land.bundles[b]) != 0) {
                light++;
            }
        }
        told.tell(land.bundleCount, light);
        return floating;
    }

    public int spare(int thing) {
        if (!land.isThing(thing)) {
            return NONE;
        }
        if (now.isGone(thing)) {
            return -2;
        }
        land.weigh(now, land.rule);
        int bundle = now.bundleOf(thing);
        int stones = now.stonesOf(bundle);
        int need = land.needOf(bundle);
        told.tell(stones, need);
        return 1000 + stones - need;
    }

    public int height(int thing, int n) {
        if (!land.isThing(thing) || n < 0 || n > MOST_AHEAD) {
            return NONE;
        }
        foresee(n);
        told.tell(then.isGone(thing) ? 1 : 0, then.debts[thing]);
        return then.isGone(thing) ? MOST_HEIGHT : then.heights[thing];
    }

    public int gone(int thing) {
        if (!land.isThing(thing)) {
            return NONE;
        }
        foresee(0);
        for (int hour = 0; hour <= MOST_AHEAD; hour++) {
            if (then.isGone(thing)) {
                told.tell(Integer.bitCount(then.goneSet) - 1);
                return hour;
            }
            land.passHours(then, 1);
        }
        return -2;
    }

    public int ahead(int n) {
        if (n < 0 || n > MOST_AHEAD) {
            return NONE;
        }
        foresee(n);
        told.clear();
        int all = 0;
        for (int i = 0; i < land.thingCount; i++) {
            told.add(then.stones[i]);
            all += then.stones[i];
        }
        return all;
    }

    // ---- what holds

    public int least(int things) {
        if ((things & ~land.everything()) != 0) {
            return NONE;
        }
        if ((things & now.goneSet) != 0) {
            return -2;
        }
        int floating = land.floating(now, land.rule);
        int lacking = 0;
        int light = 0;
        int risen = 0;
        for (int b = 0; b < land.bundleCount; b++) {
            int bundle = land.bundles[b];
            if ((bundle & things) != 0 && (bundle & floating) != 0) {
                lacking -= land.excess(now, bundle);
                light++;
                risen |= bundle;
            }
        }
        told.tell(light, risen);
        return lacking;
    }

    public int surplus() {
        land.weigh(now, land.rule);
        land.part(now);
        clearShares();
        int all = 0;
        for (int b = 0; b < land.bundleCount; b++) {
            int excess = land.excess(now, land.bundles[b]);
            if (excess > 0) {
                shareOut(land.bundles[b], excess);
                all += excess;
            }
        }
        told.clear();
        for (int i = 0; i < land.thingCount; i++) {
            told.add(shares[i]);
        }
        return all;
    }

    public int vital() {
        int floating = land.floating(now, land.rule);
        then.become(now);
        told.tell(now.stringCount());
        int found = 0;
        for (int one = 0; one < land.thingCount; one++) {
            for (int other = one + 1; other < land.thingCount; other++) {
                if (now.isTied(one, other) && risesWithout(one, other, floating)) {
                    if (found == 0) {
                        told.add(one);
                        told.add(other);
                    }
                    found++;
                }
            }
        }
        return found;
    }

    public int tie() {
        int without = Integer.bitCount(land.floating(now, land.rule));
        then.become(now);
        int fewest = MOST_THINGS + 1;
        for (int one = 0; one < land.thingCount; one++) {
            for (int other = one + 1; other < land.thingCount; other++) {
                if (now.isGone(one) || now.isGone(other) || now.isTied(one, other)) {
                    continue;
                }
                int floating = floatingWith(one, other);
                if (floating < fewest) {
                    fewest = floating;
                    told.tell(one, other);
                    told.add(without);
                }
            }
        }
        return fewest > MOST_THINGS ? -2 : fewest;
    }

    public int binds() {
        land.weigh(now, land.rule);
        land.part(now);
        int sets = 1 << land.bundleCount;
        for (int set = 0; set < sets && set < SETS; set++) {
            sums[set] = excessOfBundles(set);
            best[set] = mostGroups(set);
        }
        int groups = best[Math.min(sets, SETS) - 1];
        if (groups < 0) {
            return -2;
        }
        told.tell(groups);
        return land.bundleCount - groups;
    }

    public int way(int from, int to) {
        if (!land.isThing(from) || !land.isThing(to)) {
            return NONE;
        }
        if (now.isGone(from) || now.isGone(to)) {
            return -2;
        }
        markSteps(to);
        int steps = shares[from];
        if (steps < 0) {
            return -2;
        }
        told.tell(from);
        int at = from;
        for (int left = steps - 1; left >= 0; left--) {
            at = nextOnWay(at, left);
            told.add(at);
        }
        return steps;
    }

    // ---- loans

    public int serves() {
        int fault = faultOfRequests();
        if (fault != FAULTLESS) {
            text.clear();
            return -1 - fault;
        }
        int lines = Math.min((text.length + 1) / REQUEST_SIGNS, MOST_REQUESTS);
        int dearest = 0;
        int chosen = 0;
        for (int set = 1; set < 1 << lines; set++) {
            int price = priceOf(set, lines);
            boolean fewer = Integer.bitCount(set) < Integer.bitCount(chosen);
            if ((price > dearest || price == dearest && fewer) && canServe(set, lines)) {
                dearest = price;
                chosen = set;
            }
        }
        text.clear();
        told.tell(chosen);
        return dearest;
    }

    public int owes(int n) {
        if (n < 0 || n > MOST_AHEAD) {
            return NONE;
        }
        if (land.thingCount == 0) {
            return -2;
        }
        foresee(n);
        int deepest = 0;
        int all = 0;
        for (int i = 0; i < land.thingCount; i++) {
            all += then.debts[i];
            if (then.debts[i] > then.debts[deepest]) {
                deepest = i;
            }
        }
        told.tell(then.debts[deepest], all);
        return deepest;
    }

    // ---- who has it

    public int seen(int thing, int n, int is) {
        if (!land.isThing(thing) || n < 0 || n > Watch.MOST_AWAY || is < 0 || is > 1) {
            return NONE;
        }
        return watch.note(thing, n, is);
    }

    public int forget() {
        int noted = watch.size;
        watch.size = 0;
        return noted;
    }

    public int fits() {
        int fitting = fittingThings();
        watch.look(land, now, then, MOST_THINGS);
        told.tell(Integer.bitCount(fitting), watch.agrees() ? 1 : 0);
        return fitting;
    }

    public int looks() {
        int fitting = fittingThings();
        int all = Integer.bitCount(fitting);
        if (all == 0) {
            return -2;
        }
        int fewest = MOST_THINGS + 1;
        int place = 0;
        for (int thing = 0; thing < land.thingCount; thing++) {
            for (int hour = 0; hour <= Watch.MOST_AWAY; hour++) {
                int floating = watch.countFloating(fitting, thing, hour);
                int left = Math.max(floating, all - floating);
                if (left < fewest) {
                    fewest = left;
                    place = thing * (Watch.MOST_AWAY + 1) + hour;
                }
            }
        }
        told.tell(fewest);
        return place;
    }

    // ---- lifts, balances

    public int lifts(int v) {
        if (v < 1 || v > MOST_LOADED) {
            return NONE;
        }
        int chosen = -1;
        for (int set = 0; set <= land.everything(); set++) {
            if (now.stonesOf(set) >= v && isFewer(set, chosen)) {
                chosen = set;
            }
        }
        if (chosen < 0) {
            return -2;
        }
        told.tell(chosen);
        return Integer.bitCount(chosen);
    }

    public int just(int v) {
        if (v < 0 || v > MOST_LOADED) {
            return NONE;
        }
        int chosen = -1;
        int ways = 0;
        for (int set = 0; set <= land.everything(); set++) {
            if (now.stonesOf(set) == v) {
                ways++;
                if (isFewer(set, chosen)) {
                    chosen = set;
                }
            }
        }
        if (chosen < 0) {
            return -2;
        }
        told.tell(chosen, ways);
        return Integer.bitCount(chosen);
    }

    public int evens() {
        int all = now.stonesOf(land.everything());
        int chosen = 0;
        int least = all;
        for (int set = 1; set <= land.everything(); set++) {
            int apart = Math.abs(all - 2 * now.stonesOf(set));
            if (apart < least) {
                least = apart;
                chosen = set;
            }
        }
        told.tell(chosen, now.stonesOf(chosen));
        return least;
    }

    public int order() {
        land.weigh(now, land.rule);
        told.clear();
        int left = land.present(now);
        int placed = 0;
        for (int turn = 0; turn < MOST_THINGS && left != 0; turn++) {
            int next = heaviestOf(left);
            left &= ~(1 << next);
            told.add(next);
            placed++;
        }
        return placed;
    }

    // ---- storms, a run

    public int storm(int thing, int p) {
        if (!land.isThing(thing) || p < 0 || p > 10) {
            return NONE;
        }
        if (now.isGone(thing) || now.stringCount() > MOST_STORM_STRINGS) {
            return -2;
        }
        land.weigh(now, land.rule);
        int strings = tallyStorm(thing);
        long upper = 0;
        for (int broken = 0; broken <= strings; broken++) {
            upper += tally[broken] * power(p, broken) * power(10 - p, strings - broken);
        }
        long lower = power(10, strings);
        long common = commonDivisor(upper, lower);
        if (common < 1) {
            common = 1;
        }
        told.tell(upper / common, lower / common);
        return 0;
    }

    public int run(int a, int b) {
        if (a < 0 || a > MOST_LOANS || b < 0 || b > MOST_LOANS) {
            return NONE;
        }
        int move = -1;
        for (int first = 0; first <= a; first++) {
            for (int second = 0; second <= b; second++) {
                move = winningMove(first, second);
                lost[first * (MOST_LOANS + 1) + second] = move < 0;
            }
        }
        told.clear();
        if (move < 0) {
            return 0;
        }
        told.tell(MOVE_FIRST[move], MOVE_SECOND[move]);
        return 1;
    }

    // ---- laws, rests, years

    public int law() {
        int fault = readDraft();
        if (fault != FAULTLESS) {
            return -10000 - fault;
        }
        int byRule = Integer.bitCount(land.floating(now, land.rule));
        int byLaw = Integer.bitCount(land.floating(now, land.draft));
        told.tell(byLaw, byRule);
        for (int i = 0; i < land.thingCount; i++) {
            told.add(land.needs[i]);
        }
        return byLaw - byRule;
    }

    public int rests(int v) {
        if (v < 0 || v > MOST_WORTH) {
            return NONE;
        }
        told.clear();
        int pairs = 0;
        for (int x = 0; x <= MOST_OFFER; x++) {
            for (int y = 0; y <= MOST_OFFER; y++) {
                if (isBest(v, x, y) && isBest(v, y, x)) {
                    if (pairs == 0) {
                        told.tell(x, y);
                    }
                    pairs++;
                }
            }
        }
        return pairs;
    }

    public int years(int seed, int n) {
        if (n < 1 || n > MOST_HOURS) {
            return NONE;
        }
        then.become(now);
        int luck = seed;
        int lostStones = 0;
        for (int turn = 0; turn < n; turn++) {
            luck = nextLuck(luck);
            int kind = drawn(luck, 4);
            if (kind < 2) {
                lostStones += land.passHours(then, 1);
            } else if (land.thingCount > 0) {
                luck = nextLuck(luck);
                int thing = drawn(luck, land.thingCount);
                luck = nextLuck(luck);
                if (kind == 2) {
                    land.lend(then, thing, 1 + drawn(luck, 3));
                } else {
                    land.tieOrCut(then, thing, drawn(luck, land.thingCount));
                }
            }
        }
        told.tell(then.stock, lostStones);
        return land.present(then);
    }

    // ---- kept

    public boolean keep(int i) {
        return shelf.put(i, now);
    }

    public boolean again(int i) {
        if (!shelf.fetch(i, now)) {
            return false;
        }
        past.clear();
        return true;
    }

    public int count(int what) {
        switch (what) {
            case 0:
                return land.thingCount;
            case 1:
                return land.present(now);
            case 2:
                return now.stringCount();
            case 3:
                return now.stock;
            case 4:
                return now.taken;
            case 5:
                return now.lost;
            case 6:
                return now.hour;
            case 7:
                return land.windAt(now.hour);
            case 8:
                return now.stonesOf(land.everything());
            case 9:
                return watch.size;
            case 10:
                return past.size;
            case 11:
                return told.size;
            case 12:
                return text.length;
            default:
                return -100;
        }
    }

    public long row(int i) throws NoSuchElementException {
        if (i < 0 || i >= told.size || i >= Row.MOST_NUMBERS) {
            throw new NoSuchElementException("no such number");
        }
        return told.numbers[i];
    }

    // ---- reading of texts: where the first sign is that can't stand

    private int faultOfThings() {
        int signs = Math.min(text.length, THINGS_SIGNS);
        for (int at = 0; at < signs; at++) {
            boolean stands;
            if (at % 2 == 1) {
                stands = text.at(at) == ';';
            } else {
                stands = text.digitAt(at) > 0 && land.thingCount + at / 2 < MOST_THINGS;
            }
            if (!stands) {
                return at;
            }
        }
        if (text.length > THINGS_SIGNS || signs > 0 && signs % 2 == 0) {
            return signs;
        }
        return FAULTLESS;
    }

    private int faultOfStrings() {
        int signs = Math.min(text.length, STRINGS_SIGNS);
        for (int at = 0; at < signs; at++) {
            boolean stands;
            if (at % 3 == 2) {
                stands = text.at(at) == ';';
            } else {
                int thing = text.digitAt(at);
                stands = land.isThing(thing) && !now.isGone(thing)
                        && (at % 3 == 0 || thing != text.digitAt(at - 1));
            }
            if (!stands) {
                return at;
            }
        }
        if (text.length > STRINGS_SIGNS || signs > 0 && signs % 3 != 2) {
            return signs;
        }
        return FAULTLESS;
    }

    private int faultOfWinds() {
        int signs = Math.min(text.length, WINDS_SIGNS);
        for (int at = 0; at < signs; at++) {
            if (text.digitAt(at) < 0) {
                return at;
            }
        }
        return text.length > WINDS_SIGNS || signs == 0 ? signs : FAULTLESS;
    }

    private int faultOfNight() {
        int signs = Math.min(text.length, NIGHT_SIGNS);
        char kind = 0;
        int awaited = 0;
        for (int at = 0; at < signs; at++) {
            if (awaited == 0) {
                kind = text.at(at);
                awaited = digitsBehind(kind);
                if (awaited == 0) {
                    return at;
                }
            } else {
                awaited--;
                boolean isMany = awaited == 0 && (kind == 'l' || kind == 'g');
                if (text.digitAt(at) < (isMany ? 1 : 0)) {
                    return at;
                }
            }
        }
        return text.length > NIGHT_SIGNS || awaited > 0 ? signs : FAULTLESS;
    }

    private int faultOfRequests() {
        for (int at = 0; at < text.length; at++) {
            if (!canStandInRequest(at)) {
                return at;
            }
        }
        return text.length % REQUEST_SIGNS != REQUEST_SIGNS - 1 ? text.length : FAULTLESS;
    }

    private boolean canStandInRequest(int at) {
        if (at / REQUEST_SIGNS >= MOST_REQUESTS) {
            return false;
        }
        switch (at % REQUEST_SIGNS) {
            case 1:
                return text.digitAt(at) >= text.digitAt(at - 1);
            case 2:
                return text.digitAt(at) > 0;
            case 4:
                return text.at(at) == ';';
            default:
                return text.digitAt(at) >= 0;
        }
    }

    private int readDraft() {
        int fault = text.length == 0
                ? land.draft.compile(PLAIN_RULE, PLAIN_RULE.length)
                : land.draft.compile(text.signs, text.length);
        text.clear();
        return fault;
    }

    // ---- acts

    private int tieTold() {
        int tied = 0;
        for (int at = 0; at + 1 < text.length; at += 3) {
            int one = text.digitAt(at);
            int other = text.digitAt(at + 1);
            if (land.isThing(one) && land.isThing(other) && !now.isTied(one, other)) {
                now.toggle(one, other);
                tied++;
            }
        }
        return tied;
    }

    private static int digitsBehind(char kind) {
        switch (kind) {
            case 'n':
            case 'p':
                return 1;
            case 'l':
            case 'g':
            case 't':
                return 2;
            default:
                return 0;
        }
    }

    private int act(int at) {
        int first = text.digitAt(at + 1);
        int second = text.digitAt(at + 2);
        switch (text.at(at)) {
            case 'n':
                return land.passHours(now, first);
            case 'l':
                return land.lend(now, first, second);
            case 'g':
                return land.takeBack(now, first, second);
            case 't':
                return land.tieOrCut(now, first, second);
            default:
                return land.takeDebt(now, first);
        }
    }

    private void foresee(int n) {
        then.become(now);
        land.passHours(then, n);
    }

    // ---- helpers of what holds

    private void clearShares() {
        for (int i = 0; i < MOST_THINGS; i++) {
            shares[i] = 0;
        }
    }

    private void shareOut(int bundle, int excess) {
        int left = excess;
        for (int i = 0; i < MOST_THINGS; i++) {
            if ((bundle >> i & 1) == 1) {
                shares[i] = Math.min(now.stones[i], left);
                left -= shares[i];
            }
        }
    }

    private boolean risesWithout(int one, int other, int floating) {
        then.toggle(one, other);
        int risen = land.floating(then, land.rule) & ~floating;
        then.toggle(one, other);
        return risen != 0;
    }

    private int floatingWith(int one, int other) {
        then.toggle(one, other);
        int floating = Integer.bitCount(land.floating(then, land.rule));
        then.toggle(one, other);
        return floating;
    }

    private int excessOfBundles(int set) {
        int excess = 0;
        for (int b = 0; b < land.bundleCount; b++) {
            if ((set >> b & 1) == 1) {
                excess += land.excess(now, land.bundles[b]);
            }
        }
        return excess;
    }

    /** Into how many groups that stay down a set of bundles can be parted; below 0 if into none. */
    private int mostGroups(int set) {
        if (set == 0) {
            return 0;
        }
        int most = -1;
        int lowest = set & -set;
        for (int group = 1; group <= set; group++) {
            boolean isPart = (group & ~set) == 0 && (group & lowest) != 0;
            if (isPart && sums[group] >= 0 && best[set ^ group] >= 0) {
                most = Math.max(most, best[set ^ group] + 1);
            }
        }
        return most;
    }

    /** Puts into shares how many strings each thing is from one thing, below 0 where there is no way. */
    private void markSteps(int to) {
        for (int i = 0; i < MOST_THINGS; i++) {
            shares[i] = -1;
        }
        int reached = 1 << to;
        int edge = reached;
        for (int steps = 0; steps < MOST_THINGS; steps++) {
            int next = 0;
            for (int i = 0; i < MOST_THINGS; i++) {
                if ((edge >> i & 1) == 1) {
                    shares[i] = steps;
                    next |= now.links[i];
                }
            }
            edge = next & ~reached;
            reached |= edge;
        }
    }

    private int nextOnWay(int at, int steps) {
        for (int i = 0; i < MOST_THINGS; i++) {
            if (now.isTied(at, i) && shares[i] == steps) {
                return i;
            }
        }
        return at;
    }

    // ---- helpers of loans

    private int priceOf(int set, int lines) {
        int price = 0;
        for (int line = 0; line < lines; line++) {
            if ((set >> line & 1) == 1) {
                price += text.digitAt(line * REQUEST_SIGNS + 3);
            }
        }
        return price;
    }

    private boolean canServe(int set, int lines) {
        for (int hour = 0; hour < 10; hour++) {
            int stones = 0;
            for (int line = 0; line < lines; line++) {
                int at = line * REQUEST_SIGNS;
                boolean runs = text.digitAt(at) <= hour && hour <= text.digitAt(at + 1);
                if (runs && (set >> line & 1) == 1) {
                    stones += text.digitAt(at + 2);
                }
            }
            if (stones > now.stock) {
                return false;
            }
        }
        return true;
    }

    // ---- helpers of who has it

    private int fittingThings() {
        int fitting = 0;
        for (int i = 0; i < land.thingCount; i++) {
            if (!now.isGone(i)) {
                watch.look(land, now, then, i);
                if (watch.agrees()) {
                    fitting |= 1 << i;
                }
            }
        }
        return fitting;
    }

    // ---- helpers of lifts, balances

    private static boolean isFewer(int set, int chosen) {
        return chosen < 0 || Integer.bitCount(set) < Integer.bitCount(chosen);
    }

    private int heaviestOf(int set) {
        int heaviest = 0;
        boolean found = false;
        for (int i = 0; i < MOST_THINGS; i++) {
            if ((set >> i & 1) == 1 && (!found || excessOf(i) > excessOf(heaviest))) {
                heaviest = i;
                found = true;
            }
        }
        return heaviest;
    }

    private int excessOf(int thing) {
        return now.stones[thing] - land.needs[thing];
    }

    // ---- helpers of storms, a run

    /**
     * Counts by broken strings how many of the ways in which strings break leave a thing down.
     * Strings outside its bundle can't change that, so they are left out: how many are in it.
     */
    private int tallyStorm(int thing) {
        int strings = listStrings(now.bundleOf(thing));
        for (int broken = 0; broken <= strings; broken++) {
            tally[broken] = 0;
        }
        for (int whole = 0; whole < 1 << strings; whole++) {
            then.cutAll();
            for (int string = 0; string < strings; string++) {
                if ((whole >> string & 1) == 1) {
                    then.toggle(stringOne[string], stringOther[string]);
                }
            }
            if (land.excess(now, then.bundleOf(thing)) >= 0) {
                tally[strings - Integer.bitCount(whole)]++;
            }
        }
        return strings;
    }

    private int listStrings(int bundle) {
        int strings = 0;
        for (int one = 0; one < MOST_THINGS; one++) {
            for (int other = one + 1; other < MOST_THINGS; other++) {
                boolean isIn = (bundle >> one & 1) == 1 && now.isTied(one, other);
                if (isIn && strings < MOST_STORM_STRINGS) {
                    stringOne[strings] = one;
                    stringOther[strings] = other;
                    strings++;
                }
            }
        }
        return strings;
    }

    private static long power(int base, int times) {
        long product = 1;
        for (int i = 0; i < times; i++) {
            product *= base;
        }
        return product;
    }

    private static long commonDivisor(long one, long other) {
        long greater = one;
        long lesser = other;
        for (int step = 0; step < 1000 && lesser != 0; step++) {
            long rest = greater % lesser;
            greater = lesser;
            lesser = rest;
        }
        return greater;
    }

    private int winningMove(int first, int second) {
        for (int move = 0; move < MOVE_FIRST.length; move++) {
            int firstLeft = first - MOVE_FIRST[move];
            int secondLeft = second - MOVE_SECOND[move];
            if (firstLeft >= 0 && secondLeft >= 0 && lost[firstLeft * (MOST_LOANS + 1) + secondLeft]) {
                return move;
            }
        }
        return -1;
    }

    // ---- helpers of rests, years

    private static boolean isBest(int worth, int own, int others) {
        int gain = gainOf(worth, own, others);
        for (int offer = 0; offer <= MOST_OFFER; offer++) {
            if (gainOf(worth, offer, others) > gain) {
                return false;
            }
        }
        return true;
    }

    private static int gainOf(int worth, int own, int others) {
        if (own == others) {
            return worth / 3;
        }
        return own > others ? worth - (own + others) / 2 : 0;
    }

    private static int nextLuck(int luck) {
        return luck * 1103515245 + 12345;
    }

    private static int drawn(int luck, int n) {
        return n > 0 ? (luck >>> 16) % n : 0;
    }

    /** THE TEXT. */
    private static final class Text {
        final char[] signs = new char[TEXT_SIGNS];
        int length;

        int add(int v) {
            if (length > TEXT_SIGNS - 4) {
                return NONE;
            }
            for (int shift = 24; shift >= 0; shift -= 8) {
                signs[length] = (char) (v >>> shift & 255);
                length++;
            }
            return length;
        }

        boolean cut(int n) {
            if (n < 0 || n > length) {
                return false;
            }
            length = n;
            return true;
        }

        void clear() {
            length = 0;
        }

        /** The sign at a place; 0 behind the end, which no reader lets stand. */
        char at(int place) {
            return place >= 0 && place < length ? signs[place] : 0;
        }

        /** The digit at a place, below 0 if none is there. */
        int digitAt(int place) {
            char sign = at(place);
            return sign >= '0' && sign <= '9' ? sign - '0' : -1;
        }
    }

    /** THE ROW. */
    private static final class Row {
        static final int MOST_NUMBERS = 2 + MOST_THINGS;

        final long[] numbers = new long[MOST_NUMBERS];
        int size;

        void clear() {
            size = 0;
        }

        void add(long number) {
            if (size < MOST_NUMBERS) {
                numbers[size] = number;
                size++;
            }
        }

        void tell(long number) {
            clear();
            add(number);
        }

        void tell(long first, long second) {
            clear();
            add(first);
            add(second);
        }
    }

    /** What hours and loans change and undo() brings back. */
    private static final class State {
        final int[] stones = new int[MOST_THINGS];
        final int[] heights = new int[MOST_THINGS];
        final int[] debts = new int[MOST_THINGS];
        /** By things: those that are tied to it, as bits. */
        final int[] links = new int[MOST_THINGS];
        int goneSet;
        int stock = FIRST_STOCK;
        int taken;
        int lost;
        int hour;

        void become(State other) {
            for (int i = 0; i < MOST_THINGS; i++) {
                stones[i] = other.stones[i];
                heights[i] = other.heights[i];
                debts[i] = other.debts[i];
                links[i] = other.links[i];
            }
            goneSet = other.goneSet;
            stock = other.stock;
            taken = other.taken;
            lost = other.lost;
            hour = other.hour;
        }

        boolean isGone(int thing) {
            return (goneSet >> thing & 1) == 1;
        }

        boolean isTied(int one, int other) {
            return (links[one] >> other & 1) == 1;
        }

        void toggle(int one, int other) {
            links[one] ^= 1 << other;
            links[other] ^= 1 << one;
        }

        void cutAll() {
            for (int i = 0; i < MOST_THINGS; i++) {
                links[i] = 0;
            }
        }

        int stringCount() {
            int ends = 0;
            for (int i = 0; i < MOST_THINGS; i++) {
                ends += Integer.bitCount(links[i]);
            }
            return ends / 2;
        }

        int stonesOf(int set) {
            int sum = 0;
            for (int i = 0; i < MOST_THINGS; i++) {
                if ((set >> i & 1) == 1) {
                    sum += stones[i];
                }
            }
            return sum;
        }

        int bundleOf(int thing) {
            int bundle = 1 << thing;
            int fresh = bundle;
            for (int pass = 0; pass < MOST_THINGS && fresh != 0; pass++) {
                int reached = 0;
                for (int i = 0; i < MOST_THINGS; i++) {
                    if ((fresh >> i & 1) == 1) {
                        reached |= links[i];
                    }
                }
                fresh = reached & ~bundle;
                bundle |= fresh;
            }
            return bundle;
        }

        /** A thing goes up for ever: how many stones are lost by it. */
        int lose(int thing) {
            int had = stones[thing];
            lost = Math.min(lost + had, MOST_LOST);
            stones[thing] = 0;
            goneSet |= 1 << thing;
            for (int i = 0; i < MOST_THINGS; i++) {
                if (isTied(thing, i)) {
                    toggle(thing, i);
                }
            }
            return had;
        }
    }

    /** The rule by which a thing needs stones, as a row of codes of which each works on those ahead. */
    private static final class Rule {
        private static final int MOST_DEPTH = 4;
        private static final int MOST_DIGITS = 3;
        /** Codes below are numbers, from here on names, then signs: no name's place is beyond the values. */
        private static final int VARIABLE = 1000;
        static final int VALUES = 8;
        private static final int OPERATOR = VARIABLE + VALUES;
        private static final int NUMBERLESS = 0;
        private static final char NEGATE = '~';
        private static final char[] NAMES = {'z', 'w', 'k', 'g', 'h', 'd', 'i', 'n'};

        private final int[] codes = new int[RULE_SIGNS];
        private final int[] stack = new int[RULE_SIGNS];
        private final char[] waiting = new char[RULE_SIGNS];
        private int size;
        private int waits;
        private int depth;
        /** By depths, as bits: whether a comparison stands there already. */
        private int compared;
        private int digits;
        private boolean wantsThing;

        Rule() {
            compile(PLAIN_RULE, PLAIN_RULE.length);
        }

        int compile(char[] signs, int length) {
            size = 0;
            waits = 0;
            depth = 0;
            compared = 0;
            digits = NUMBERLESS;
            wantsThing = true;
            int readable = Math.min(Math.min(length, signs.length), RULE_SIGNS);
            for (int at = 0; at < readable; at++) {
                boolean stands = wantsThing ? takeThing(signs[at]) : takeBehind(signs[at]);
                if (!stands) {
                    return at;
                }
            }
            if (length > readable || wantsThing || depth > 0) {
                return readable;
            }
            release(1);
            return FAULTLESS;
        }

        private boolean takeThing(char sign) {
            if (sign == '-') {
                hold(NEGATE);
                return true;
            }
            if (sign == '(') {
                return open();
            }
            if (sign >= '0' && sign <= '9') {
                emit(sign - '0');
                digits = 1;
                wantsThing = false;
                return true;
            }
            for (int name = 0; name < NAMES.length; name++) {
                if (NAMES[name] == sign) {
                    emit(VARIABLE + name);
                    wantsThing = false;
                    return true;
                }
            }
            return false;
        }

        private boolean takeBehind(char sign) {
            if (sign >= '0' && sign <= '9') {
                return lengthen(sign - '0');
            }
            digits = NUMBERLESS;
            if (sign == ')') {
                return close();
            }
            int strength = strengthOf(sign);
            if (strength < 1 || strength > 3) {
                return false;
            }
            if (strength == 1) {
                if ((compared >> depth & 1) == 1) {
                    return false;
                }
                compared |= 1 << depth;
            }
            release(strength);
            hold(sign);
            wantsThing = true;
            return true;
        }

        private boolean lengthen(int digit) {
            if (digits == NUMBERLESS || digits == MOST_DIGITS || size < 1) {
                return false;
            }
            codes[size - 1] = codes[size - 1] * 10 + digit;
            digits++;
            return true;
        }

        private boolean open() {
            if (depth == MOST_DEPTH) {
                return false;
            }
            depth++;
            compared &= ~(1 << depth);
            hold('(');
            return true;
        }

        private boolean close() {
            if (depth == 0) {
                return false;
            }
            depth--;
            release(1);
            waits = Math.max(waits - 1, 0);
            return true;
        }

        private static int strengthOf(char sign) {
            switch (sign) {
                case '<':
                case '>':
                case '=':
                    return 1;
                case '+':
                case '-':
                    return 2;
                case '*':
                case '/':
                    return 3;
                case NEGATE:
                    return 4;
                default:
                    return 0;
            }
        }

        private void hold(char sign) {
            if (waits < RULE_SIGNS) {
                waiting[waits] = sign;
                waits++;
            }
        }

        /** Puts out the waiting signs that bind as strongly at least, up to the ( that is open. */
        private void release(int strength) {
            for (int at = waits - 1; at >= 0 && strengthOf(waiting[at]) >= strength; at--) {
                emit(OPERATOR + waiting[at]);
                waits = at;
            }
        }

        private void emit(int code) {
            if (size < RULE_SIGNS) {
                codes[size] = code;
                size++;
            }
        }

        /** What comes out for a thing of which the values are told in the order of the names. */
        int valueOf(int[] values) {
            int top = 0;
            for (int at = 0; at < size && top < RULE_SIGNS; at++) {
                int code = codes[at];
                if (code < VARIABLE) {
                    stack[top] = code;
                    top++;
                } else if (code < OPERATOR) {
                    stack[top] = values[code - VARIABLE];
                    top++;
                } else if (code == OPERATOR + NEGATE) {
                    if (top > 0) {
                        stack[top - 1] = -stack[top - 1];
                    }
                } else if (top > 1) {
                    top--;
                    stack[top - 1] = combine(code - OPERATOR, stack[top - 1], stack[top]);
                }
            }
            return stack[0];
        }

        private static int combine(int sign, int one, int other) {
            switch (sign) {
                case '<':
                    return one < other ? 1 : 0;
                case '>':
                    return one > other ? 1 : 0;
                case '=':
                    return one == other ? 1 : 0;
                case '+':
                    return one + other;
                case '-':
                    return one - other;
                case '*':
                    return one * other;
                default:
                    return other == 0 ? 0 : one / other;
            }
        }
    }

    /** What no hour changes: sizes, winds, the rule; and what follows from them for a state. */
    private static final class Land {
        final int[] sizes = new int[MOST_THINGS];
        int thingCount;
        Rule rule = new Rule();
        /** Where a rule is read, so that one that can't be leaves the rule as it was. */
        Rule draft = new Rule();
        /** By things, as weigh() found them last. */
        final int[] needs = new int[MOST_THINGS];
        /** As part() found them last. */
        final int[] bundles = new int[MOST_THINGS];
        int bundleCount;
        private final int[] windDigits = new int[WINDS_SIGNS];
        private int windCount = 1;
        private final int[] values = new int[Rule.VALUES];

        boolean isThing(int thing) {
            return thing >= 0 && thing < thingCount && thing < MOST_THINGS;
        }

        int everything() {
            return (1 << thingCount) - 1;
        }

        int present(State state) {
            return everything() & ~state.goneSet;
        }

        void addThing(int size) {
            if (thingCount < MOST_THINGS) {
                sizes[thingCount] = size;
                thingCount++;
            }
        }

        int setSizes(int kind, int n, int f, int step) {
            int sum = 0;
            for (int i = 0; i < thingCount; i++) {
                int entry = 1;
                if (i < n) {
                    entry = f + i * step;
                    if (kind == 0) {
                        entry = (byte) entry;
                    } else if (kind == 1) {
                        entry = (short) entry;
                    }
                }
                sizes[i] = Math.max(1, Math.min(9, entry));
                sum += sizes[i];
            }
            return sum;
        }

        void setWinds(Text text) {
            windCount = Math.max(1, Math.min(text.length, WINDS_SIGNS));
            for (int i = 0; i < windCount; i++) {
                windDigits[i] = Math.max(0, text.digitAt(i));
            }
        }

        int windAt(int hour) {
            if (windCount < 1 || windCount > WINDS_SIGNS) {
                return 0;
            }
            return windDigits[Math.floorMod(hour, windCount)];
        }

        void adoptDraft() {
            Rule older = rule;
            rule = draft;
            draft = older;
        }

        void weigh(State state, Rule by) {
            values[1] = windAt(state.hour);
            values[7] = Math.floorMod(state.hour, 7);
            for (int i = 0; i < thingCount; i++) {
                if (state.isGone(i)) {
                    needs[i] = 0;
                    continue;
                }
                values[0] = sizes[i];
                values[2] = Integer.bitCount(state.links[i]);
                values[3] = state.stones[i];
                values[4] = state.heights[i];
                values[5] = state.debts[i];
                values[6] = i;
                needs[i] = Math.max(0, Math.min(9, by.valueOf(values)));
            }
        }

        void part(State state) {
            bundleCount = 0;
            int left = present(state);
            for (int i = 0; i < thingCount; i++) {
                if ((left >> i & 1) == 1 && bundleCount < MOST_THINGS) {
                    int bundle = state.bundleOf(i);
                    left &= ~bundle;
                    bundles[bundleCount] = bundle;
                    bundleCount++;
                }
            }
        }

        int needOf(int set) {
            int sum = 0;
            for (int i = 0; i < MOST_THINGS; i++) {
                if ((set >> i & 1) == 1) {
                    sum += needs[i];
                }
            }
            return sum;
        }

        int excess(State state, int set) {
            return state.stonesOf(set) - needOf(set);
        }

        int floating(State state, Rule by) {
            weigh(state, by);
            part(state);
            int floating = 0;
            for (int b = 0; b < bundleCount; b++) {
                if (excess(state, bundles[b]) < 0) {
                    floating |= bundles[b];
                }
            }
            return floating;
        }

        /** Hours pass: how many stones are lost in them. */
        int passHours(State state, int n) {
            int lostStones = 0;
            for (int hour = 0; hour < n; hour++) {
                lostStones += passHour(state, floating(state, rule));
            }
            return lostStones;
        }

        int passHour(State state, int floating) {
            int lostStones = 0;
            for (int i = 0; i < thingCount; i++) {
                if (state.isGone(i)) {
                    continue;
                }
                if ((floating >> i & 1) == 0) {
                    state.heights[i] = Math.max(0, state.heights[i] - 1);
                } else if (state.heights[i] < MOST_HEIGHT) {
                    state.heights[i]++;
                } else {
                    lostStones += state.lose(i);
                }
                if (!state.isGone(i)) {
                    state.debts[i] = Math.min(state.debts[i] + state.stones[i], MOST_DEBT);
                }
            }
            state.hour++;
            return lostStones;
        }

        int lend(State state, int thing, int n) {
            if (!isThing(thing) || n < 1 || n > MOST_STONES) {
                return NONE;
            }
            if (state.isGone(thing)) {
                return -2;
            }
            if (state.stock < n) {
                return -3;
            }
            if (state.stones[thing] + n > MOST_STONES) {
                return -4;
            }
            state.stock -= n;
            state.stones[thing] += n;
            return state.stones[thing];
        }

        int takeBack(State state, int thing, int n) {
            if (!isThing(thing) || n < 1 || n > MOST_STONES) {
                return NONE;
            }
            if (state.stones[thing] < n) {
                return -2;
            }
            if (state.stock + n > MOST_STOCK) {
                return -3;
            }
            state.stones[thing] -= n;
            state.stock += n;
            return state.stock;
        }

        int tieOrCut(State state, int one, int other) {
            if (!isThing(one) || !isThing(other) || one == other) {
                return NONE;
            }
            if (state.isGone(one) || state.isGone(other)) {
                return -2;
            }
            state.toggle(one, other);
            return state.stringCount();
        }

        int takeDebt(State state, int thing) {
            if (!isThing(thing)) {
                return NONE;
            }
            int debt = state.debts[thing];
            if (debt == 0) {
                return -2;
            }
            state.debts[thing] = 0;
            state.taken = Math.min(state.taken + debt, MOST_TAKEN);
            return debt;
        }
    }

    /** States that undo() can bring back, in a ring with one place more, where the next one is drawn. */
    private static final class Past {
        private static final int MOST_KEPT = 15;
        private static final int PLACES = 16;

        private final State[] states = new State[PLACES];
        private int next;
        int size;

        Past() {
            for (int i = 0; i < PLACES; i++) {
                states[i] = new State();
            }
        }

        void clear() {
            size = 0;
        }

        /** Draws a state ahead of an act of which it is not known yet if it can be done. */
        void draw(State state) {
            states[next & PLACES - 1].become(state);
        }

        /** The act was done: what was drawn last can be brought back. */
        void commit() {
            next = next + 1 & PLACES - 1;
            size = Math.min(size + 1, MOST_KEPT);
        }

        int settle(int answer) {
            if (answer >= 0) {
                commit();
            }
            return answer;
        }

        int bringBack(State state) {
            if (size == 0) {
                return NONE;
            }
            next = next - 1 & PLACES - 1;
            size--;
            state.become(states[next]);
            return size;
        }
    }

    /** States that are kept under numbers. */
    private static final class Shelf {
        private static final int PLACES = 3;

        private final State[] states = new State[PLACES];
        private int filled;

        Shelf() {
            for (int i = 0; i < PLACES; i++) {
                states[i] = new State();
            }
        }

        void clear() {
            filled = 0;
        }

        boolean put(int place, State state) {
            if (place < 0 || place >= PLACES) {
                return false;
            }
            states[place].become(state);
            filled |= 1 << place;
            return true;
        }

        boolean fetch(int place, State state) {
            if (place < 0 || place >= PLACES || (filled >> place & 1) == 0) {
                return false;
            }
            state.become(states[place]);
            return true;
        }
    }

    /** What was seen, and what would be seen of all things if one of them had a stone more. */
    private static final class Watch {
        static final int MOST_AWAY = 20;
        private static final int MOST_NOTES = 10;

        private final int[] notedThings = new int[MOST_NOTES];
        private final int[] notedHours = new int[MOST_NOTES];
        private final int[] notedAnswers = new int[MOST_NOTES];
        int size;
        /** By holders of the stone (the last: none) and hours: what floats, as bits. */
        private final int[][] floating = new int[MOST_THINGS + 1][MOST_AWAY + 1];
        private int holder;

        int note(int thing, int hour, int answer) {
            if (size >= MOST_NOTES) {
                return NONE;
            }
            notedThings[size] = thing;
            notedHours[size] = hour;
            notedAnswers[size] = answer;
            size++;
            return size;
        }

        /** Looks ahead with a stone more for a thing (MOST_THINGS: for none). */
        void look(Land land, State now, State then, int extra) {
            if (extra < 0 || extra > MOST_THINGS) {
                return;
            }
            holder = extra;
            then.become(now);
            if (extra < MOST_THINGS) {
                then.stones[extra]++;
            }
            for (int hour = 0; hour <= MOST_AWAY; hour++) {
                floating[extra][hour] = land.floating(then, land.rule);
                land.passHour(then, floating[extra][hour]);
            }
        }

        /** Whether what was looked at last is all as it was seen. */
        boolean agrees() {
            for (int i = 0; i < size; i++) {
                int floats = floating[holder][notedHours[i]] >> notedThings[i] & 1;
                if (floats != notedAnswers[i]) {
                    return false;
                }
            }
            return true;
        }

        int countFloating(int holders, int thing, int hour) {
            int sum = 0;
            for (int i = 0; i < MOST_THINGS; i++) {
                if ((holders >> i & 1) == 1) {
                    sum += floating[i][hour] >> thing & 1;
                }
            }
            return sum;
        }
    }
}
