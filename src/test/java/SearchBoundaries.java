import java.math.BigInteger;

/** Boundary cases of promises 31 to 47: who has it, balances, storms, runs, laws, rests, years, what is kept. */
final class SearchBoundaries extends Boundaries {

    // ---- promise 31: seen

    static void p31_noneSuch() {
        BorrowedWeight x = rich();
        none("thing", x, () -> x.seen(-1, 0, 0), () -> x.seen(4, 0, 0), () -> x.seen(8, 0, 0),
                () -> x.seen(MIN, 0, 0), () -> x.seen(MAX, 0, 0));
        BorrowedWeight full = full();
        none("the ninth", full, () -> full.seen(8, 0, 0));
        BorrowedWeight empty = new BorrowedWeight();
        none("no things", empty, () -> empty.seen(0, 0, 0));
    }

    static void p31_anotherN() {
        BorrowedWeight x = rich();
        none("n", x, () -> x.seen(1, -1, 0), () -> x.seen(1, 21, 0), () -> x.seen(1, MIN, 0),
                () -> x.seen(1, MAX, 0));
        due("0", x.seen(1, 0, 0), 3);
        due("20", x.seen(1, 20, 0), 4);
    }

    static void p31_anotherIs() {
        BorrowedWeight x = rich();
        none("is", x, () -> x.seen(1, 0, -1), () -> x.seen(1, 0, 2), () -> x.seen(1, 0, MIN), () -> x.seen(1, 0, MAX));
    }

    static void p31_ten() {
        BorrowedWeight x = full();
        for (int i = 1; i <= 10; i++) {
            due("seen", x.seen(7, 2 * i, i % 2), i);
        }
        none("an eleventh", x, () -> x.seen(0, 0, 0));
        due("ten", x.count(9), 10);
        x.forget();
        due("from the first on", x.seen(0, 0, 0), 1);
    }

    static void p31_theSameTwice() {
        BorrowedWeight x = full();
        due("one", x.seen(0, 0, 0), 1);
        due("two", x.seen(0, 0, 0), 2);
    }

    static void p31_aGoneOne() {
        BorrowedWeight x = oneGone();
        due("not floating", x.seen(0, 0, 0), 1);
        row("so it is", x, x.fits(), 6, 2, 1);
        due("floating", x.seen(0, 20, 1), 2);
        row("so it can't be", x, x.fits(), 0, 0, 0);
    }

    // ---- promise 32: forget

    static void p32_none() {
        BorrowedWeight x = new BorrowedWeight();
        due("none", x.forget(), 0);
    }

    static void p32_ten() {
        BorrowedWeight x = full();
        for (int i = 0; i < 10; i++) {
            x.seen(0, 0, 1);
        }
        row("none fits", x, x.fits(), 0, 0, 0);
        due("ten", x.forget(), 10);
        due("none", x.count(9), 0);
        due("none again", x.forget(), 0);
        row("all fit", x, x.fits(), 255, 8, 1);
    }

    // ---- promise 33: fits

    static void p33_noThings() {
        BorrowedWeight x = new BorrowedWeight();
        row("none", x, x.fits(), 0, 0, 1);
    }

    static void p33_nothingSeen() {
        BorrowedWeight x = rich();
        x.forget();
        row("all that are there", x, x.fits(), 14, 3, 1);
    }

    static void p33_allGone() {
        BorrowedWeight x = allGone();
        row("none", x, x.fits(), 0, 0, 1);
        x.seen(0, 0, 1);
        row("nor with none", x, x.fits(), 0, 0, 0);
    }

    static void p33_oneStoneMoreIsJustEnough() {
        BorrowedWeight x = with("8;8", "");
        x.lends(0, 3);
        x.lends(1, 2);
        x.seen(0, 0, 0);
        row("the first", x, x.fits(), 1, 1, 0);
        x.forget();
        x.seen(1, 0, 0);
        row("two are lacking", x, x.fits(), 0, 0, 0);
    }

    static void p33_tenStonesHoldDown() {
        BorrowedWeight x = ruled("1;1", "(i=0)*9+(i=1)");
        x.ties(0, 1);
        x.lends(0, 9);
        x.seen(0, 0, 0);
        row("ten by either", x, x.fits(), 3, 2, 0);
        due("nothing changes", x.thing(0, 1), 9);
    }

    static void p33_tenStonesByTheRule() {
        BorrowedWeight x = ruled("1;1", "(g=10)*9+(i=1)*2");
        x.ties(0, 1);
        x.lends(0, 9);
        x.seen(0, 0, 1);
        row("ten make it need eleven", x, x.fits(), 1, 1, 0);
    }

    static void p33_tenStonesMakeADebtOfTen() {
        BorrowedWeight x = ruled("1;1", "(d=10)*9+(i=1)*2");
        x.ties(0, 1);
        x.lends(0, 9);
        x.seen(0, 1, 1);
        row("in one hour", x, x.fits(), 1, 1, 0);
    }

    static void p33_inTwentyHours() {
        BorrowedWeight x = ruled("1;1", "(d>20)*9");
        x.lends(0, 1);
        x.seen(0, 20, 1);
        row("by two stones alone", x, x.fits(), 1, 1, 0);
        text(x, "(d>19)*9").rule();
        row("by one alone: with two it is gone by then", x, x.fits(), 2, 1, 1);
    }

    static void p33_goneIsNotFloating() {
        BorrowedWeight x = with("8;8", "");
        x.lends(0, 3);
        x.seen(0, 10, 0);
        row("gone, or down", x, x.fits(), 3, 2, 1);
        x.forget();
        x.seen(0, 9, 1);
        row("not gone yet", x, x.fits(), 2, 1, 1);
    }

    static void p33_theEighthThing() {
        BorrowedWeight x = ruled("1;1;1;1;1;1;1;1", "(i=7)");
        x.seen(7, 0, 0);
        row("it alone, and not with none", x, x.fits(), 128, 1, 0);
        x.forget();
        x.seen(7, 0, 1);
        row("all others, and with none", x, x.fits(), 127, 7, 1);
    }

    static void p33_itChangesNothing() {
        BorrowedWeight x = rich();
        x.fits();
        String before = view(x);
        x.fits();
        unchanged("fits", x, before);
    }

    // ---- promise 34: looks

    static void p34_noneFits() {
        BorrowedWeight x = oneGone();
        x.seen(0, 0, 1);
        refused("none", x, -2, x::looks);
        BorrowedWeight empty = new BorrowedWeight();
        refused("no things", empty, -2, empty::looks);
        BorrowedWeight gone = allGone();
        refused("all gone", gone, -2, gone::looks);
    }

    static void p34_oneFits() {
        BorrowedWeight x = with("9", "");
        row("one", x, x.looks(), 0, 1);
    }

    static void p34_ofEqualOnesTheLeast() {
        BorrowedWeight x = full();
        row("nothing tells them apart", x, x.looks(), 0, 8);
    }

    static void p34_theLastThingAndHour() {
        BorrowedWeight x = ruled("1;1;1;1;1;1;1;1", "(i=7)*(d>39)*9");
        x.lends(7, 1);
        row("in 20 hours", x, x.looks(), 7 * 21 + 20, 7);
        text(x, "(i=7)*(d>40)*9").rule();
        row("in none of these", x, x.looks(), 0, 8);
    }

    static void p34_theFewestAtMost() {
        BorrowedWeight x = ruled("1;1;1;1", "(i=3)");
        text(x, "23").strings();
        row("halves", x, x.looks(), 42, 2);
    }

    static void p34_amongThoseThatFit() {
        BorrowedWeight x = ruled("2;2;2;2", "1");
        x.seen(0, 0, 1);
        row("three are left", x, x.looks(), 21, 2);
        x.seen(1, 0, 1);
        row("two are left", x, x.looks(), 42, 1);
        x.seen(2, 0, 1);
        row("one is left", x, x.looks(), 0, 1);
        x.seen(3, 0, 1);
        refused("none", x, -2, x::looks);
    }

    // ---- promise 35: lifts

    static void p35_anotherV() {
        BorrowedWeight x = rich();
        none("v", x, () -> x.lifts(0), () -> x.lifts(-1), () -> x.lifts(73), () -> x.lifts(MIN), () -> x.lifts(MAX));
    }

    static void p35_one() {
        BorrowedWeight x = rich();
        row("one", x, x.lifts(1), 1, 2);
    }

    static void p35_all72() {
        BorrowedWeight x = full();
        row("72", x, x.lifts(72), 8, 255);
        row("64", x, x.lifts(64), 8, 255);
        row("63", x, x.lifts(63), 7, 127);
        row("9", x, x.lifts(9), 1, 1);
        row("10", x, x.lifts(10), 2, 3);
    }

    static void p35_allHaveFewer() {
        BorrowedWeight x = rich();
        row("all", x, x.lifts(9), 3, 14);
        refused("ten", x, -2, () -> x.lifts(10));
        refused("72", x, -2, () -> x.lifts(72));
        BorrowedWeight empty = new BorrowedWeight();
        refused("no things", empty, -2, () -> empty.lifts(1));
    }

    static void p35_ofAsFewTheLeast() {
        BorrowedWeight x = with("1;1;1", "");
        x.lends(0, 2);
        x.lends(1, 5);
        x.lends(2, 5);
        row("the least of two", x, x.lifts(5), 1, 2);
        row("the least of two pairs", x, x.lifts(7), 2, 3);
        row("one pair", x, x.lifts(8), 2, 6);
    }

    // ---- promise 36: just

    static void p36_anotherV() {
        BorrowedWeight x = rich();
        none("v", x, () -> x.just(-1), () -> x.just(73), () -> x.just(MIN), () -> x.just(MAX));
    }

    static void p36_none() {
        BorrowedWeight x = full();
        row("the empty set", x, x.just(0), 0, 0, 1);
        BorrowedWeight y = with("1;1;1", "");
        row("all sets", y, y.just(0), 0, 0, 8);
        BorrowedWeight empty = new BorrowedWeight();
        row("no things", empty, empty.just(0), 0, 0, 1);
    }

    static void p36_all72() {
        BorrowedWeight x = full();
        row("72", x, x.just(72), 8, 255, 1);
        row("36", x, x.just(36), 4, 15, 70);
        refused("71", x, -2, () -> x.just(71));
    }

    static void p36_noSetDoes() {
        BorrowedWeight x = rich();
        refused("ten", x, -2, () -> x.just(10));
        refused("one", x, -2, () -> x.just(1));
        refused("72", x, -2, () -> x.just(72));
    }

    static void p36_ofAsFewTheLeast() {
        BorrowedWeight x = with("1;1;1;1", "");
        x.lends(0, 2);
        x.lends(1, 3);
        x.lends(2, 5);
        x.lends(3, 5);
        row("one ahead of two", x, x.just(5), 1, 4, 3);
        row("the least pair", x, x.just(8), 2, 6, 2);
    }

    static void p36_goneOnesHaveNone() {
        BorrowedWeight x = oneGone();
        row("with the gone one and without", x, x.just(2), 2, 6, 2);
    }

    // ---- promise 37: evens

    static void p37_noThings() {
        BorrowedWeight x = new BorrowedWeight();
        row("none", x, x.evens(), 0, 0, 0);
    }

    static void p37_oneThing() {
        BorrowedWeight x = with("1", "");
        row("no stones", x, x.evens(), 0, 0, 0);
        x.lends(0, 9);
        row("one part is empty", x, x.evens(), 9, 0, 0);
    }

    static void p37_allAlike() {
        BorrowedWeight x = full();
        row("halves", x, x.evens(), 0, 15, 36);
        x.gives(7, 9);
        row("seven", x, x.evens(), 9, 7, 27);
    }

    static void p37_theFirstThingAlone() {
        BorrowedWeight x = with("1;1;1", "");
        x.lends(0, 5);
        x.lends(1, 2);
        row("the first", x, x.evens(), 3, 1, 5);
        x.lends(2, 3);
        row("even", x, x.evens(), 0, 1, 5);
    }

    static void p37_ofAsGoodOnesTheLeast() {
        BorrowedWeight x = with("1;1;1", "");
        x.lends(2, 5);
        row("the part without", x, x.evens(), 5, 0, 0);
        x.lends(1, 2);
        row("the lesser bits", x, x.evens(), 3, 2, 2);
        x.lends(0, 4);
        row("apart by one", x, x.evens(), 1, 3, 6);
    }

    // ---- promise 38: order

    static void p38_none() {
        BorrowedWeight x = new BorrowedWeight();
        x.least(0);
        row("no things", x, x.order(), 0);
        BorrowedWeight gone = allGone();
        gone.least(0);
        row("all gone", gone, gone.order(), 0);
    }

    static void p38_likeOnesByTheirNumbers() {
        BorrowedWeight x = full();
        row("all alike", x, x.order(), 8, 0, 1, 2, 3, 4, 5, 6, 7);
    }

    static void p38_theMostFirst() {
        BorrowedWeight x = ruled("1;1;1;1;1;1;1;1", "(i<5)*9");
        x.digs(9);
        x.lends(7, 9);
        x.lends(6, 8);
        x.lends(0, 9);
        row("from nine above to nine below", x, x.order(), 8, 7, 6, 0, 5, 1, 2, 3, 4);
    }

    static void p38_goneOnesNot() {
        BorrowedWeight x = rich();
        row("three", x, x.order(), 3, 1, 2, 3);
    }

    // ---- promise 39: storm

    static void p39_noneSuch() {
        BorrowedWeight x = rich();
        none("thing", x, () -> x.storm(-1, 5), () -> x.storm(4, 5), () -> x.storm(8, 5), () -> x.storm(MIN, 5),
                () -> x.storm(MAX, 5));
        BorrowedWeight full = full();
        none("the ninth", full, () -> full.storm(8, 5));
    }

    static void p39_anotherP() {
        BorrowedWeight x = rich();
        none("p", x, () -> x.storm(1, -1), () -> x.storm(1, 11), () -> x.storm(1, MIN), () -> x.storm(1, MAX),
                () -> x.storm(0, 11), () -> x.storm(0, -1));
    }

    static void p39_gone() {
        BorrowedWeight x = rich();
        refused("gone", x, -2, () -> x.storm(0, 5));
    }

    static void p39_noStrings() {
        BorrowedWeight x = with("8;8", "");
        x.lends(0, 4);
        row("down", x, x.storm(0, 5), 0, 1, 1);
        row("floats", x, x.storm(1, 5), 0, 0, 1);
    }

    static void p39_noneBreaksAndAllBreak() {
        BorrowedWeight x = with("2;2;2", "01;12");
        x.lends(0, 3);
        row("none", x, x.storm(2, 0), 0, 1, 1);
        row("all", x, x.storm(2, 10), 0, 0, 1);
        row("all, by its own", x, x.storm(0, 10), 0, 1, 1);
        row("one tenth", x, x.storm(2, 1), 0, 81, 100);
        row("nine tenths", x, x.storm(2, 9), 0, 1, 100);
    }

    static void p39_lowestTerms() {
        BorrowedWeight x = with("2;1", "01");
        x.lends(1, 1);
        long[][] want = {{1, 1}, {9, 10}, {4, 5}, {7, 10}, {3, 5}, {1, 2}, {2, 5}, {3, 10}, {1, 5}, {1, 10}, {0, 1}};
        for (int p = 0; p <= 10; p++) {
            row("p " + p, x, x.storm(0, p), 0, want[p]);
        }
    }

    static void p39_downByBreaking() {
        BorrowedWeight x = with("2;9", "01");
        x.lends(0, 1);
        row("without the other", x, x.storm(0, 3), 0, 3, 10);
    }

    static void p39_twelveStrings() {
        String twelve = "01;02;03;14;25;36;47;57;67;12;23;45";
        BorrowedWeight x = ruled("1;1;1;1;1;1;1;1", "(i=0)");
        text(x, twelve).strings();
        x.lends(7, 1);
        for (int p : new int[] {1, 3, 7, 9}) {
            BigInteger upper = ways(twelve.split(";"), 0, 0, p);
            BigInteger lower = BigInteger.TEN.pow(12);
            BigInteger common = upper.gcd(lower);
            row("p " + p, x, x.storm(0, p), 0, upper.divide(common).longValueExact(),
                    lower.divide(common).longValueExact());
        }
        due("told beyond ints", x.row(1) > MAX ? 1 : 0, 1);
    }

    /** In how many of ten to the twelfth ways the first thing and the last one hang together. */
    private static BigInteger ways(String[] strings, int next, int whole, int p) {
        if (next == strings.length) {
            int reached = 1;
            for (int round = 0; round < 8; round++) {
                for (int i = 0; i < strings.length; i++) {
                    int ends = 1 << strings[i].charAt(0) - '0' | 1 << strings[i].charAt(1) - '0';
                    reached |= (whole >> i & 1) == 1 && (reached & ends) != 0 ? ends : 0;
                }
            }
            return BigInteger.valueOf(reached >> 7 & 1);
        }
        BigInteger stays = ways(strings, next + 1, whole | 1 << next, p).multiply(BigInteger.valueOf(10 - p));
        return stays.add(ways(strings, next + 1, whole, p).multiply(BigInteger.valueOf(p)));
    }

    static void p39_byWayOfTheLastThing() {
        BorrowedWeight x = ruled("1;1;1;1;1;1;1;1", "(i=0)");
        text(x, "07;71;72").strings();
        x.lends(1, 1);
        row("one holder", x, x.storm(0, 5), 0, 1, 4);
        x.lends(2, 1);
        row("two holders", x, x.storm(0, 5), 0, 3, 8);
    }

    static void p39_moreThanTwelveStrings() {
        BorrowedWeight x = with("1;1;1;1;1;1;1;1", "01;02;03;04;05;06;12;13;14;15;16;23");
        row("twelve", x, x.storm(0, 5), 0, 1, 1);
        x.ties(2, 4);
        refused("thirteen", x, -2, () -> x.storm(0, 5));
        refused("thirteen, of one without strings", x, -2, () -> x.storm(7, 5));
        none("thirteen, another p", x, () -> x.storm(0, 11));
        x.ties(2, 4);
        row("twelve again", x, x.storm(7, 5), 0, 1, 1);
    }

    static void p39_needAsItIsNow() {
        BorrowedWeight x = ruled("1;1", "k");
        text(x, "01").strings();
        x.lends(0, 2);
        row("one is needed though it breaks", x, x.storm(1, 4), 0, 3, 5);
    }

    // ---- promise 40: run

    static void p40_others() {
        BorrowedWeight x = rich();
        none("loans", x, () -> x.run(-1, 0), () -> x.run(0, -1), () -> x.run(21, 0), () -> x.run(0, 21),
                () -> x.run(MIN, 0), () -> x.run(0, MAX), () -> x.run(21, 21), () -> x.run(-1, 21));
    }

    static void p40_noLoans() {
        BorrowedWeight x = rich();
        row("none", x, x.run(0, 0), 0);
    }

    static void p40_oneKindAlone() {
        BorrowedWeight x = new BorrowedWeight();
        for (int n = 1; n <= 20; n++) {
            if (n % 3 == 0) {
                row("the first kind " + n, x, x.run(n, 0), 0);
                row("the second kind " + n, x, x.run(0, n), 0);
            } else {
                row("the first kind " + n, x, x.run(n, 0), 1, n % 3, 0);
                row("the second kind " + n, x, x.run(0, n), 1, 0, n % 3);
            }
        }
    }

    static void p40_bothKinds() {
        int[][] move = new int[21 * 21][];
        for (int a = 0; a <= 20; a++) {
            for (int b = 0; b <= 20; b++) {
                for (int first = 0; first <= 2 && move[a * 21 + b] == null; first++) {
                    for (int second = first == 0 ? 1 : 0; second <= 2 - first && move[a * 21 + b] == null; second++) {
                        boolean can = first <= a && second <= b;
                        if (can && move[(a - first) * 21 + b - second] == null) {
                            move[a * 21 + b] = new int[] {first, second};
                        }
                    }
                }
            }
        }
        BorrowedWeight x = new BorrowedWeight();
        for (int a : new int[] {1, 2, 3, 19, 20}) {
            for (int b : new int[] {1, 2, 3, 19, 20}) {
                int[] best = move[a * 21 + b];
                if (best == null) {
                    row(a + ", " + b, x, x.run(a, b), 0);
                } else {
                    row(a + ", " + b, x, x.run(a, b), 1, best[0], best[1]);
                }
            }
        }
    }

    static void p40_theLeastMove() {
        BorrowedWeight x = new BorrowedWeight();
        row("one of the second", x, x.run(2, 2), 1, 0, 1);
        row("one of each", x, x.run(1, 1), 1, 1, 1);
    }

    // ---- promise 41: law

    static void p41_faults() {
        BorrowedWeight x = rich();
        String forty = times(19, "1+") + "22";
        refusedText(x, "y", -10000, x::law);
        refusedText(x, "z+", -10002, x::law);
        refusedText(x, "1234", -10003, x::law);
        refusedText(x, "(((((1", -10004, x::law);
        refusedText(x, "1<2<3", -10003, x::law);
        refusedText(x, forty + "2", -10040, x::law);
        refusedText(x, forty + "x", -10040, x::law);
        refusedText(x, times(20, "1+"), -10040, x::law);
        refusedText(x, forty.substring(0, 39) + "x1", -10039, x::law);
    }

    static void p41_empty() {
        BorrowedWeight x = ruled("9;9", "0");
        row("none", x, text(x, "").law(), 2, 2, 0, 4, 4);
    }

    static void p41_fortySigns() {
        BorrowedWeight x = ruled("9", "0");
        row("forty", x, text(x, times(19, "0+") + "03").law(), 1, 1, 0, 3);
    }

    static void p41_below0() {
        BorrowedWeight x = ruled("1;1;1;1;1;1;1;1", "9");
        row("eight fewer", x, text(x, "0").law(), -8, 0, 8, 0, 0, 0, 0, 0, 0, 0, 0);
        text(x, "0").rule();
        row("eight more", x, text(x, "9").law(), 8, 8, 0, 9, 9, 9, 9, 9, 9, 9, 9);
    }

    static void p41_noThings() {
        BorrowedWeight x = new BorrowedWeight();
        row("none", x, text(x, "9").law(), 0, 0, 0);
    }

    static void p41_putTo0To9() {
        BorrowedWeight x = ruled("1;9", "0");
        row("above", x, text(x, "z*9").law(), 2, 2, 0, 9, 9);
        row("below", x, text(x, "z-9").law(), 0, 0, 0, 0, 0);
    }

    static void p41_goneOnesNeedNone() {
        BorrowedWeight x = rich();
        row("gone", x, text(x, "9").law(), 2, 3, 1, 0, 9, 9, 9);
    }

    static void p41_theRuleStays() {
        BorrowedWeight x = ruled("9", "7");
        text(x, "3").law();
        due("behind a law", x.thing(0, 5), 7);
        text(x, "3+").law();
        due("behind a fault", x.thing(0, 5), 7);
        text(x, "3+").rule();
        due("behind a fault of its own", x.thing(0, 5), 7);
        text(x, "").law();
        due("behind an empty one", x.thing(0, 5), 7);
    }

    // ---- promise 42: rests

    static void p42_anotherV() {
        BorrowedWeight x = rich();
        none("v", x, () -> x.rests(-1), () -> x.rests(21), () -> x.rests(MIN), () -> x.rests(MAX));
    }

    static void p42_nothingToHave() {
        BorrowedWeight x = new BorrowedWeight();
        row("v 0", x, x.rests(0), 12, 0, 0);
    }

    static void p42_eachV() {
        BorrowedWeight x = new BorrowedWeight();
        for (int v = 0; v <= 20; v++) {
            int pairs = 0;
            int least = -1;
            for (int pair = 99; pair >= 0; pair--) {
                if (rests(v, pair / 10, pair % 10)) {
                    pairs++;
                    least = pair;
                }
            }
            if (pairs == 0) {
                row("v " + v, x, x.rests(v), 0);
            } else {
                row("v " + v, x, x.rests(v), pairs, least / 10, least % 10);
            }
        }
    }

    private static boolean rests(int v, int x, int y) {
        for (int other = 0; other <= 9; other++) {
            if (has(v, other, y) > has(v, x, y) || has(v, other, x) > has(v, y, x)) {
                return false;
            }
        }
        return true;
    }

    private static int has(int v, int own, int others) {
        return own < others ? 0 : own == others ? v / 3 : v - (own + others) / 2;
    }

    // ---- promise 43: years

    static void p43_anotherN() {
        BorrowedWeight x = rich();
        none("n", x, () -> x.years(1, 0), () -> x.years(1, -1), () -> x.years(1, 61), () -> x.years(1, MIN),
                () -> x.years(1, MAX));
    }

    static void p43_noThings() {
        BorrowedWeight x = new BorrowedWeight();
        row("one", x, x.years(0, 1), 0, 30, 0);
        row("sixty", x, x.years(-1, 60), 0, 30, 0);
    }

    static void p43_anySeed() {
        for (int seed : new int[] {0, 1, -1, MIN, MAX, 123456789, -987654321}) {
            for (int n : new int[] {1, 2, 59, 60}) {
                BorrowedWeight x = with("9;2;3;5;9;1;4", "01;23");
                BorrowedWeight y = with("9;2;3;5;9;1;4", "01;23");
                int lost = live(y, seed, n);
                row("seed " + seed + ", n " + n, x, x.years(seed, n), y.count(1), y.count(3), lost);
            }
        }
    }

    static void p43_oneThing() {
        for (int seed = -10; seed < 10; seed++) {
            BorrowedWeight x = with("9", "");
            BorrowedWeight y = with("9", "");
            int lost = live(y, seed, 30);
            row("seed " + seed, x, x.years(seed, 30), y.count(1), y.count(3), lost);
        }
    }

    static void p43_eightThings() {
        for (int seed = 0; seed < 10; seed++) {
            BorrowedWeight x = with("9;8;7;6;5;4;3;2", "07;12");
            BorrowedWeight y = with("9;8;7;6;5;4;3;2", "07;12");
            int lost = live(y, seed, 60);
            row("seed " + seed, x, x.years(seed, 60), y.count(1), y.count(3), lost);
        }
    }

    static void p43_goneOnesAreDrawnToo() {
        for (int seed = 0; seed < 20; seed++) {
            BorrowedWeight x = oneGone();
            BorrowedWeight y = oneGone();
            int lost = live(y, seed, 60);
            row("seed " + seed, x, x.years(seed, 60), y.count(1), y.count(3), lost);
        }
    }

    static void p43_stockRunsOut() {
        boolean out = false;
        for (int seed = 0; seed < 20; seed++) {
            BorrowedWeight x = full();
            BorrowedWeight y = full();
            x.digs(3);
            y.digs(3);
            x.gives(0, 9);
            y.gives(0, 9);
            int lost = live(y, seed, 60);
            row("seed " + seed, x, x.years(seed, 60), y.count(1), y.count(3), lost);
            out |= y.count(3) < 12;
        }
        Check.yes("some was lent", out);
    }

    /** The draws by whole numbers without a sign, the acts by the calls of the face: stones lost. */
    private static int live(BorrowedWeight x, int seed, int n) {
        long[] r = {seed & 0xffffffffL};
        int lost = x.count(5);
        for (int i = 0; i < n; i++) {
            int kind = draw(r, 4);
            if (kind < 2) {
                x.hours(1);
            } else if (kind == 2) {
                int thing = draw(r, x.count(0));
                x.lends(thing, 1 + draw(r, 3));
            } else {
                int one = draw(r, x.count(0));
                x.ties(one, draw(r, x.count(0)));
            }
        }
        return x.count(5) - lost;
    }

    private static int draw(long[] r, int n) {
        r[0] = BigInteger.valueOf(r[0]).multiply(BigInteger.valueOf(1103515245)).add(BigInteger.valueOf(12345))
                .mod(BigInteger.ONE.shiftLeft(32)).longValueExact();
        return (int) (r[0] / 65536 % n);
    }

    static void p43_itChangesNothing() {
        BorrowedWeight x = rich();
        x.years(5, 60);
        String before = view(x);
        x.years(5, 60);
        unchanged("years", x, before);
        due("hour", x.count(6), 12);
    }

    // ---- promise 44: keep

    static void p44_others() {
        BorrowedWeight x = rich();
        for (int i : new int[] {-1, 3, MIN, MAX, 32, 33}) {
            refusedFlag("keep(" + i + ")", x, () -> x.keep(i));
            Check.no("again(" + i + ")", x.again(i));
        }
    }

    static void p44_threeNumbers() {
        BorrowedWeight x = with("9", "");
        for (int i = 0; i < 3; i++) {
            x.digs(1);
            Check.yes("keep(" + i + ")", x.keep(i));
        }
        x.digs(9);
        for (int i = 0; i < 3; i++) {
            Check.yes("again(" + i + ")", x.again(i));
            due("stock", x.count(3), 31 + i);
        }
    }

    static void p44_keptAnew() {
        BorrowedWeight x = with("9", "");
        x.keep(1);
        x.digs(1);
        x.keep(1);
        x.digs(1);
        Check.yes("again", x.again(1));
        due("the later one", x.count(3), 31);
    }

    static void p44_itChangesNothing() {
        BorrowedWeight x = rich();
        String before = view(x);
        Check.yes("keep", x.keep(0));
        unchanged("keep", x, before);
    }

    static void p44_whatWasKeptStaysAsItWas() {
        BorrowedWeight x = rich();
        x.keep(0);
        int[] before = {x.count(1), x.count(2), x.count(3), x.count(4), x.count(5), x.count(6), x.thing(3, 2),
            x.thing(3, 3), x.thing(1, 1)};
        text(x, "n9t13l11p1").night();
        x.undo();
        text(x, "n9t13l11p1").night();
        Check.yes("again", x.again(0));
        int[] after = {x.count(1), x.count(2), x.count(3), x.count(4), x.count(5), x.count(6), x.thing(3, 2),
            x.thing(3, 3), x.thing(1, 1)};
        for (int i = 0; i < before.length; i++) {
            due("what " + i, after[i], before[i]);
        }
    }

    // ---- promise 45: again

    static void p45_nothingKept() {
        BorrowedWeight x = rich();
        refusedFlag("again(0)", x, () -> x.again(0));
        refusedFlag("again(2)", x, () -> x.again(2));
        refusedFlag("again(-1)", x, () -> x.again(-1));
        refusedFlag("again(3)", x, () -> x.again(3));
        refusedFlag("again(33), 1 is kept", x, () -> x.again(33));
        refusedFlag("again(least)", x, () -> x.again(MIN));
        refusedFlag("again(greatest)", x, () -> x.again(MAX));
        Check.yes("again(1)", x.again(1));
    }

    static void p45_thingsCameSince() {
        BorrowedWeight x = rich();
        x.keep(0);
        x.keep(1);
        x.keep(2);
        due("things", text(x, "5").things(), 1);
        for (int i = 0; i < 3; i++) {
            int place = i;
            refusedFlag("again(" + i + ")", x, () -> x.again(place));
        }
        x.keep(1);
        x.digs(1);
        Check.yes("kept since", x.again(1));
        Check.no("not kept since", x.again(0));
    }

    static void p45_noThingsCameSince() {
        BorrowedWeight x = rich();
        due("empty", text(x, "").things(), 0);
        due("refused", text(x, "5;").things(), -3);
        Check.yes("still kept", x.again(1));
    }

    static void p45_withoutThings() {
        BorrowedWeight x = new BorrowedWeight();
        Check.yes("keep", x.keep(0));
        x.hours(5);
        x.digs(5);
        Check.yes("again", x.again(0));
        due("stock", x.count(3), 30);
        due("hour", x.count(6), 0);
    }

    static void p45_asOftenAsOneLikes() {
        BorrowedWeight x = rich();
        for (int i = 0; i < 3; i++) {
            x.hours(60);
            Check.yes("again", x.again(1));
            due("hour", x.count(6), 10);
        }
    }

    static void p45_whatIsNotKept() {
        BorrowedWeight x = rich();
        x.sheet(2, 4, 7, 0);
        text(x, "8").winds();
        text(x, "w").rule();
        x.seen(1, 1, 1);
        x.evens();
        x.sign(0x31323334);
        Check.yes("again", x.again(1));
        due("size", x.thing(1, 0), 7);
        due("wind", x.count(7), 8);
        due("need", x.thing(1, 5), 8);
        due("seen", x.count(9), 3);
        due("row", x.count(11), 2);
        due("text", x.count(12), 4);
    }

    static void p45_undoIsForgotten() {
        BorrowedWeight x = rich();
        Check.yes("again", x.again(1));
        due("none", x.count(10), 0);
        none("undo", x, x::undo);
    }

    static void p45_undoDoesNotForgetWhatIsKept() {
        BorrowedWeight x = rich();
        x.undo();
        x.undo();
        Check.yes("again", x.again(1));
        due("stones", x.thing(3, 1), 3);
    }

    // ---- promise 46: count

    static void p46_anotherWhat() {
        BorrowedWeight x = rich();
        for (int what : new int[] {-1, 13, 14, MIN, MAX}) {
            refused("count(" + what + ")", x, -100, () -> x.count(what));
        }
    }

    static void p46_eachWhat() {
        BorrowedWeight x = rich();
        x.sign(0);
        int[] want = {4, 14, 1, 19, 30, 2, 12, 3, 9, 2, 9, 2, 4};
        for (int what = 0; what <= 12; what++) {
            due("count(" + what + ")", x.count(what), want[what]);
        }
    }

    static void p46_full() {
        BorrowedWeight x = full();
        due("things", x.count(0), 8);
        due("bits", x.count(1), 255);
        due("stock", x.count(3), 0);
        due("stones", x.count(8), 72);
    }

    // ---- promise 47: row

    static void p47_noneTold() {
        rowThrows(new BorrowedWeight(), 0);
        rowThrows(rich(), 2);
    }

    static void p47_noneSuch() {
        for (int i : new int[] {-1, 2, 3, 10, MIN, MAX}) {
            rowThrows(rich(), i);
        }
    }

    static void p47_anEmptyRow() {
        BorrowedWeight x = rich();
        x.run(0, 0);
        due("numbers", x.count(11), 0);
        rowThrows(x, 0);
    }

    static void p47_theLongestRow() {
        BorrowedWeight x = full();
        text(x, "i").law();
        due("numbers", x.count(11), 10);
        due("the last", x.row(9), 7);
        rowThrows(x, 10);
    }

    static void p47_aShorterOneLeavesNothingOfALongerOne() {
        BorrowedWeight x = full();
        text(x, "i").law();
        x.evens();
        due("numbers", x.count(11), 2);
        rowThrows(x, 2);
    }

    static void p47_callsThatTellNone() {
        BorrowedWeight x = rich();
        x.evens();
        long[] told = {x.row(0), x.row(1)};
        x.lends(1, 1);
        x.gives(1, 1);
        x.ties(1, 3);
        x.pays(3);
        x.digs(1);
        x.undo();
        x.keep(2);
        x.again(2);
        x.forget();
        x.seen(1, 1, 1);
        x.sheet(2, 4, 5, 0);
        text(x, "5").winds();
        text(x, "z").rule();
        text(x, "12").strings();
        text(x, "5").things();
        due("numbers", x.count(11), 2);
        due("first", x.row(0), told[0]);
        due("second", x.row(1), told[1]);
    }
}
