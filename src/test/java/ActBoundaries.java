/** Boundary cases of promises 10 to 17: hours, loans, strings, debts, nights, what is undone. */
final class ActBoundaries extends Boundaries {
    private static final String THIRTY_ACTS = times(30, "n0");

    // ---- promise 10: hours

    static void p10_anotherN() {
        BorrowedWeight x = rich();
        none("n", x, () -> x.hours(-1), () -> x.hours(61), () -> x.hours(MIN), () -> x.hours(MAX));
    }

    static void p10_noHours() {
        BorrowedWeight x = rich();
        row("none", x, x.hours(0), 14, 0, 0);
        due("hour", x.count(6), 12);
        due("height", x.thing(3, 2), 2);
        due("none without things", new BorrowedWeight().hours(0), 0);
    }

    static void p10_sixtyHours() {
        BorrowedWeight x = with("1", "");
        row("sixty", x, x.hours(60), 1, 0, 0);
        due("hour", x.count(6), 60);
    }

    static void p10_noThings() {
        BorrowedWeight x = new BorrowedWeight();
        row("sixty", x, x.hours(60), 0, 0, 0);
        due("hour", x.count(6), 60);
    }

    static void p10_fewerThanNeededFloats() {
        BorrowedWeight x = with("8;8", "");
        x.lends(0, 4);
        x.lends(1, 3);
        x.hours(1);
        due("as many as needed: down", x.thing(0, 2), 0);
        due("one fewer: up", x.thing(1, 2), 1);
    }

    static void p10_noNeedAndNoStonesIsDown() {
        BorrowedWeight x = with("1", "");
        x.hours(60);
        due("down", x.thing(0, 2), 0);
        due("there", x.count(1), 1);
    }

    static void p10_height9IsNotGoneYet() {
        BorrowedWeight x = with("9", "");
        row("nine", x, x.hours(9), 1, 0, 0);
        due("height", x.thing(0, 2), 9);
        due("not gone", x.thing(0, 4), 0);
        row("the tenth", x, x.hours(1), 0, 1, 0);
        due("gone", x.thing(0, 4), 1);
    }

    static void p10_from9ItCanComeDown() {
        BorrowedWeight x = with("9", "");
        x.hours(9);
        x.lends(0, 4);
        x.hours(1);
        due("height", x.thing(0, 2), 8);
        due("there", x.count(1), 1);
    }

    static void p10_height0AtLeast() {
        BorrowedWeight x = with("9", "");
        x.hours(2);
        x.lends(0, 4);
        int[] heights = {1, 0, 0, 0};
        for (int height : heights) {
            x.hours(1);
            due("height", x.thing(0, 2), height);
        }
    }

    static void p10_whatIsGoneStaysSo() {
        BorrowedWeight x = oneGone();
        int[] before = {x.thing(0, 2), x.thing(0, 3)};
        row("sixty more", x, x.hours(60), 6, 0, 0);
        due("height 9", x.thing(0, 2), before[0]);
        due("height 9", before[0], 9);
        due("debt", x.thing(0, 3), before[1]);
        due("lost once", x.count(5), 1);
        due("needs none", x.count(1), 6);
    }

    static void p10_itsStonesAreLost() {
        BorrowedWeight x = with("9;8", "");
        x.lends(0, 3);
        x.lends(1, 2);
        row("both go", x, x.hours(10), 0, 2, 5);
        due("lost", x.count(5), 5);
        due("it has none", x.thing(0, 1), 0);
        due("stones of all", x.count(8), 0);
        due("stock as it was", x.count(3), 25);
    }

    static void p10_noDebtInTheHourInWhichItGoes() {
        BorrowedWeight x = with("9", "");
        x.lends(0, 3);
        x.hours(9);
        due("nine hours", x.thing(0, 3), 27);
        x.hours(1);
        due("not the tenth", x.thing(0, 3), 27);
    }

    static void p10_itsStringsAreCut() {
        BorrowedWeight x = with("9;1;1", "");
        x.hours(9);
        text(x, "01;02;12").strings();
        row("it goes", x, x.hours(1), 6, 1, 0);
        due("the string of the others", x.count(2), 1);
        due("tied to none", x.thing(0, 6), 0);
        due("the others", x.thing(1, 6) * 10 + x.thing(2, 6), 42);
    }

    static void p10_itsStringsToTheFirstAndTheLastAreCut() {
        BorrowedWeight x = ruled("1;1;1;1;1;1;1;1", "(i=3)*9");
        x.hours(9);
        text(x, "03;31;37;36;07").strings();
        row("it goes", x, x.hours(1), 255 - 8, 1, 0);
        due("one is left", x.count(2), 1);
        due("of the first", x.thing(0, 6), 128);
        due("of the last", x.thing(7, 6), 1);
        due("of the others", x.thing(1, 6) + x.thing(6, 6), 0);
    }

    static void p10_allAsItIsAheadOfIt() {
        for (int first = 0; first <= 1; first++) {
            int other = 1 - first;
            BorrowedWeight x = with("9;9", "");
            x.lends(other, 4);
            x.hours(9);
            x.ties(0, 1);
            x.lends(first, 3);
            row("one goes", x, x.hours(1), 1 << other, 1, 3);
            due("the other rises in that hour", x.thing(other, 2), 1);
            x.hours(1);
            due("and is down in the next", x.thing(other, 2), 0);
        }
    }

    static void p10_theNeedIsThatAheadOfIt() {
        BorrowedWeight x = ruled("1;1;1", "(h=0)*(k+1)");
        text(x, "01").strings();
        x.hours(1);
        due("all rise", x.thing(0, 2) * 100 + x.thing(1, 2) * 10 + x.thing(2, 2), 111);
        x.hours(1);
        due("all sink", x.thing(0, 2) + x.thing(1, 2) + x.thing(2, 2), 0);
    }

    static void p10_theWindIsThatAheadOfIt() {
        BorrowedWeight x = ruled("1", "w");
        text(x, "090").winds();
        x.hours(1);
        due("still", x.thing(0, 2), 0);
        x.hours(1);
        due("wind", x.thing(0, 2), 1);
        x.hours(1);
        due("still", x.thing(0, 2), 0);
    }

    static void p10_debt999AtMost() {
        BorrowedWeight x = with("1;1", "");
        x.lends(0, 9);
        x.lends(1, 7);
        x.hours(60);
        x.hours(50);
        due("990", x.thing(0, 3), 990);
        x.hours(1);
        due("just 999", x.thing(0, 3), 999);
        x.hours(1);
        due("no more", x.thing(0, 3), 999);
        x.hours(30);
        due("994", x.thing(1, 3), 994);
        x.hours(1);
        due("cut to 999", x.thing(1, 3), 999);
    }

    static void p10_theRowIsOfTheseHoursAlone() {
        BorrowedWeight x = with("9;2;8", "");
        x.lends(0, 3);
        x.lends(2, 4);
        row("one and two go", x, x.hours(10), 4, 2, 3);
        x.gives(2, 3);
        row("the third later", x, x.hours(9), 4, 0, 0);
        row("the third", x, x.hours(1), 0, 1, 1);
        due("lost in all", x.count(5), 4);
    }

    // ---- promise 11: lends

    static void p11_anotherN() {
        BorrowedWeight x = rich();
        none("n", x, () -> x.lends(1, 0), () -> x.lends(1, 10), () -> x.lends(1, -1), () -> x.lends(1, MIN),
                () -> x.lends(1, MAX));
    }

    static void p11_noneSuch() {
        BorrowedWeight x = rich();
        none("thing", x, () -> x.lends(-1, 1), () -> x.lends(4, 1), () -> x.lends(8, 1), () -> x.lends(MIN, 1),
                () -> x.lends(MAX, 1), () -> x.lends(33, 1));
        BorrowedWeight empty = new BorrowedWeight();
        none("no things", empty, () -> empty.lends(0, 1));
        BorrowedWeight full = full();
        none("the ninth", full, () -> full.lends(8, 1));
    }

    static void p11_oneAndNine() {
        BorrowedWeight x = with("9;9", "");
        due("one", x.lends(0, 1), 1);
        due("nine", x.lends(1, 9), 9);
        due("stock", x.count(3), 20);
    }

    static void p11_itIsGone() {
        BorrowedWeight x = rich();
        refused("gone", x, -2, () -> x.lends(0, 1));
        BorrowedWeight y = emptyHouse(true);
        due("stock", y.count(3), 0);
        refused("gone, and stock has not so many", y, -2, () -> y.lends(0, 1));
    }

    /** No stock; the first of five is GONE, if it is told. */
    private static BorrowedWeight emptyHouse(boolean gone) {
        BorrowedWeight x = with("9;1;1;1;1", "");
        if (gone) {
            x.hours(10);
        }
        x.lends(1, 9);
        x.lends(2, 9);
        x.lends(3, 9);
        x.lends(4, 3);
        return x;
    }

    static void p11_stockHasNotSoMany() {
        BorrowedWeight x = with("1;1;1;1", "");
        x.lends(0, 9);
        x.lends(1, 9);
        x.lends(2, 9);
        refused("four of three", x, -3, () -> x.lends(3, 4));
        due("three of three", x.lends(3, 3), 3);
        due("none is left", x.count(3), 0);
        refused("one of none", x, -3, () -> x.lends(3, 1));
    }

    static void p11_moreThanNine() {
        BorrowedWeight x = with("1", "");
        x.lends(0, 4);
        refused("six more", x, -4, () -> x.lends(0, 6));
        due("five more", x.lends(0, 5), 9);
        refused("one more", x, -4, () -> x.lends(0, 1));
        refused("nine more", x, -4, () -> x.lends(0, 9));
    }

    static void p11_whichComesFirst() {
        BorrowedWeight x = rich();
        none("gone and another n", x, () -> x.lends(0, 10), () -> x.lends(0, 0));
        BorrowedWeight y = emptyHouse(false);
        refused("not so many, and more than nine", y, -3, () -> y.lends(1, 1));
        none("another n, and not so many", y, () -> y.lends(1, 10));
    }

    // ---- promise 12: gives

    static void p12_anotherN() {
        BorrowedWeight x = rich();
        none("n", x, () -> x.gives(1, 0), () -> x.gives(1, 10), () -> x.gives(1, -1), () -> x.gives(1, MIN),
                () -> x.gives(1, MAX));
    }

    static void p12_noneSuch() {
        BorrowedWeight x = rich();
        none("thing", x, () -> x.gives(-1, 1), () -> x.gives(4, 1), () -> x.gives(8, 1), () -> x.gives(MIN, 1),
                () -> x.gives(MAX, 1), () -> x.gives(33, 1));
        BorrowedWeight full = full();
        none("the ninth", full, () -> full.gives(8, 1));
    }

    static void p12_notSoMany() {
        BorrowedWeight x = with("1;1", "");
        x.lends(0, 3);
        refused("four of three", x, -2, () -> x.gives(0, 4));
        refused("one of none", x, -2, () -> x.gives(1, 1));
        due("three of three", x.gives(0, 3), 30);
        refused("one of none now", x, -2, () -> x.gives(0, 1));
    }

    static void p12_aGoneOneHasNone() {
        BorrowedWeight x = rich();
        refused("gone", x, -2, () -> x.gives(0, 1));
    }

    static void p12_nine() {
        BorrowedWeight x = full();
        due("nine of nine", x.gives(7, 9), 9);
        due("it has none", x.thing(7, 1), 0);
    }

    static void p12_stockAbove99() {
        BorrowedWeight x = with("1;1", "");
        x.lends(0, 9);
        x.digs(76);
        due("stock 97", x.count(3), 97);
        refused("three", x, -3, () -> x.gives(0, 3));
        due("two", x.gives(0, 2), 99);
        refused("one more", x, -3, () -> x.gives(0, 1));
        refused("not so many, and above 99", x, -2, () -> x.gives(0, 9));
        none("another n", x, () -> x.gives(0, 10));
    }

    // ---- promise 13: ties

    static void p13_noneSuch() {
        BorrowedWeight x = rich();
        none("things", x, () -> x.ties(1, 4), () -> x.ties(4, 1), () -> x.ties(-1, 1), () -> x.ties(1, -1),
                () -> x.ties(MIN, MAX), () -> x.ties(1, 34), () -> x.ties(34, 1), () -> x.ties(4, 5));
        BorrowedWeight empty = new BorrowedWeight();
        none("no things", empty, () -> empty.ties(0, 1));
        BorrowedWeight full = full();
        none("the ninth", full, () -> full.ties(0, 8), () -> full.ties(8, 0));
    }

    static void p13_likeOnes() {
        BorrowedWeight x = rich();
        none("like", x, () -> x.ties(1, 1), () -> x.ties(0, 0), () -> x.ties(9, 9));
    }

    static void p13_oneIsGone() {
        BorrowedWeight x = rich();
        refused("the first", x, -2, () -> x.ties(0, 1));
        refused("the other", x, -2, () -> x.ties(1, 0));
        BorrowedWeight y = allGone();
        refused("both", y, -2, () -> y.ties(0, 1));
        none("gone, and none such", x, () -> x.ties(0, 4), () -> x.ties(4, 0));
    }

    static void p13_tiedAndCut() {
        BorrowedWeight x = with("1;1;1", "");
        due("tied", x.ties(0, 1), 1);
        due("cut by the other end", x.ties(1, 0), 0);
        due("tied again", x.ties(1, 0), 1);
        due("another", x.ties(1, 2), 2);
        due("the first one is cut", x.ties(0, 1), 1);
        due("the other stays", x.thing(1, 6), 4);
    }

    static void p13_allOfThem() {
        BorrowedWeight x = full();
        int strings = 0;
        for (int one = 7; one >= 0; one--) {
            for (int other = 0; other < one; other++) {
                strings++;
                due("tied", x.ties(one, other), strings);
            }
        }
        due("all", strings, 28);
        due("one is cut", x.ties(0, 7), 27);
    }

    // ---- promise 14: pays

    static void p14_noneSuch() {
        BorrowedWeight x = rich();
        none("thing", x, () -> x.pays(-1), () -> x.pays(4), () -> x.pays(8), () -> x.pays(MIN), () -> x.pays(MAX));
        BorrowedWeight empty = new BorrowedWeight();
        none("no things", empty, () -> empty.pays(0));
        BorrowedWeight full = full();
        full.hours(1);
        none("the ninth", full, () -> full.pays(8));
    }

    static void p14_noDebt() {
        BorrowedWeight x = with("1;1", "");
        x.lends(0, 1);
        refused("none yet", x, -2, () -> x.pays(0));
        x.hours(1);
        due("one", x.pays(0), 1);
        refused("none any more", x, -2, () -> x.pays(0));
        refused("no stones", x, -2, () -> x.pays(1));
    }

    static void p14_goneOrNot() {
        BorrowedWeight x = rich();
        due("gone", x.pays(0), 18);
        refused("gone, none any more", x, -2, () -> x.pays(0));
        BorrowedWeight y = allGone();
        refused("gone without debt", y, -2, () -> y.pays(0));
    }

    static void p14_takenIsMore() {
        BorrowedWeight x = full();
        x.hours(2);
        due("one", x.pays(0), 18);
        due("another", x.pays(7), 18);
        due("taken", x.count(4), 36);
    }

    static void p14_taken9999AtMost() {
        BorrowedWeight x = full();
        x.hours(60);
        x.hours(60);
        for (int i = 0; i < 8; i++) {
            due("999", x.pays(i), 999);
        }
        x.hours(60);
        x.hours(60);
        x.pays(0);
        x.pays(1);
        due("9990", x.count(4), 9990);
        x.hours(1);
        due("9", x.pays(0), 9);
        due("just 9999", x.count(4), 9999);
        due("999 is told", x.pays(2), 999);
        due("9999 still", x.count(4), 9999);
        due("debt is paid", x.thing(2, 3), 0);
    }

    static void p14_takenIsCutTo9999() {
        BorrowedWeight x = full();
        for (int round = 0; round < 2; round++) {
            x.hours(60);
            x.hours(60);
            for (int i = 0; i < 5; i++) {
                x.pays(i);
            }
        }
        due("9990", x.count(4), 9990);
        due("999 is told", x.pays(5), 999);
        due("cut", x.count(4), 9999);
    }

    // ---- promise 15: digs

    static void p15_anotherN() {
        BorrowedWeight x = rich();
        none("n", x, () -> x.digs(0), () -> x.digs(-1), () -> x.digs(100), () -> x.digs(MIN), () -> x.digs(MAX));
    }

    static void p15_oneTo99() {
        due("one", new BorrowedWeight().digs(1), 31);
        BorrowedWeight x = emptyHouse(false);
        due("99 from none", x.digs(99), 99);
    }

    static void p15_above99() {
        BorrowedWeight x = new BorrowedWeight();
        refused("70", x, -3, () -> x.digs(70));
        refused("99", x, -3, () -> x.digs(99));
        due("69", x.digs(69), 99);
        refused("one more", x, -3, () -> x.digs(1));
        none("100", x, () -> x.digs(100));
    }

    // ---- promise 16: night

    static void p16_empty() {
        BorrowedWeight x = rich();
        int undone = x.count(10);
        row("empty", x, text(x, "").night(), 0, 0, x.count(3));
        due("nothing to undo", x.count(10), undone);
        due("hour", x.count(6), 12);
    }

    static void p16_aSignThatCantStand() {
        BorrowedWeight x = rich();
        for (String s : new String[] {"x", "0", ";", "d1", "N1", "u", "h1"}) {
            refusedText(x, s, -1, x::night);
        }
        for (String s : new String[] {"nx", "n;", "lx1", "l;", "gg", "tx", "pp", "p:", "n/", "n-1"}) {
            refusedText(x, s, -2, x::night);
        }
        for (String s : new String[] {"n11", "p11", "l1x", "g1:", "t1x", "n1;n1", "p1 "}) {
            refusedText(x, s, -3, x::night);
        }
        refusedText(x, "l11x", -4, x::night);
        refusedText(x, "t123", -4, x::night);
    }

    static void p16_lendsAndGivesFromOne() {
        BorrowedWeight x = rich();
        refusedText(x, "l10", -3, x::night);
        refusedText(x, "g10", -3, x::night);
        refusedText(x, "n1l11g10", -8, x::night);
        row("one and nine", x, text(x, "l11g14l19").night(), 3, 0, 13);
        due("nine", x.thing(1, 1), 9);
    }

    static void p16_endsTooEarly() {
        BorrowedWeight x = rich();
        for (String s : new String[] {"n", "l", "l1", "g", "g1", "t", "t1", "p", "n1l", "n1t12p"}) {
            refusedText(x, s, -1 - s.length(), x::night);
        }
    }

    static void p16_sixtySigns() {
        BorrowedWeight x = rich();
        due("signs", THIRTY_ACTS.length(), 60);
        row("thirty acts", x, text(x, THIRTY_ACTS).night(), 30, 0, x.count(3));
        row("an act that ends there", x, text(x, times(27, "n0") + "l11g11").night(), 29, 0, x.count(3));
    }

    static void p16_moreThanSixtySigns() {
        BorrowedWeight x = rich();
        for (String s : new String[] {"n", "x", "n0", "l11", "0"}) {
            refusedText(x, THIRTY_ACTS + s, -61, x::night);
        }
        refusedText(x, times(29, "n0") + "l11", -61, x::night);
        refusedText(x, times(40, "n1"), -61, x::night);
    }

    static void p16_moreThanSixtySignsAndAnEarlierFault() {
        BorrowedWeight x = rich();
        refusedText(x, times(29, "n0") + "nxn0", -60, x::night);
        refusedText(x, "x" + times(35, "n0"), -1, x::night);
        refusedText(x, times(28, "n0") + "xn0n0n0", -57, x::night);
    }

    static void p16_sixtySignsThatEndTooEarly() {
        BorrowedWeight x = rich();
        refusedText(x, times(29, "n0") + "l1", -61, x::night);
        refusedText(x, times(19, "l11") + "n1n", -61, x::night);
    }

    static void p16_tillOneIsRefused() {
        BorrowedWeight x = rich();
        int stock = x.count(3);
        String[] refused = {"l01", "l17", "l91", "g01", "g14", "g81", "t01", "t11", "t19", "p1", "p9"};
        for (String act : refused) {
            BorrowedWeight y = rich();
            if (act.equals("p1")) {
                y.pays(1);
            }
            row(act, y, text(y, "l21" + act + "n9").night(), 1, 1, stock - 1);
            due(act + ": what is behind is not done", y.count(6), 12);
            due(act + ": what is ahead is done", y.thing(2, 1), 4);
        }
    }

    static void p16_theFirstIsRefused() {
        BorrowedWeight x = rich();
        int undone = x.count(10);
        row("first", x, text(x, "l01n9").night(), 0, 1, x.count(3));
        due("hour", x.count(6), 12);
        due("nothing to undo", x.count(10), undone);
    }

    static void p16_theLastIsRefused() {
        BorrowedWeight x = rich();
        row("last", x, text(x, "n0n1t11").night(), 2, 1, x.count(3));
        due("hour", x.count(6), 13);
    }

    static void p16_anAnswerOf0IsNotRefused() {
        BorrowedWeight x = rich();
        row("the last string is cut", x, text(x, "t12n1").night(), 2, 0, x.count(3));
        due("no strings", x.count(2), 0);
    }

    static void p16_stockNotSoMany() {
        BorrowedWeight x = with("1;1;1;1", "");
        row("the fourth", x, text(x, "l09l19l29l34l33").night(), 3, 1, 3);
        row("just so many", x, text(x, "l33").night(), 1, 0, 0);
    }

    static void p16_hoursFromNoneTo9() {
        BorrowedWeight x = rich();
        row("none", x, text(x, "n0").night(), 1, 0, x.count(3));
        due("hour", x.count(6), 12);
        row("nine", x, text(x, "n9").night(), 1, 0, x.count(3));
        due("hour", x.count(6), 21);
        due("gone by then", x.count(1), 6);
    }

    static void p16_noThings() {
        BorrowedWeight x = new BorrowedWeight();
        row("hours pass", x, text(x, "n3p0").night(), 1, 1, 30);
        due("hour", x.count(6), 3);
    }

    static void p16_nothingIsDoneBehindAFault() {
        BorrowedWeight x = rich();
        refusedText(x, "n9l11t13x", -9, x::night);
    }

    // ---- promise 17: undo

    static void p17_none() {
        BorrowedWeight x = new BorrowedWeight();
        none("none", x, x::undo);
        x.digs(1);
        due("one", x.undo(), 0);
        none("no more", x, x::undo);
    }

    static void p17_fifteenAreKept() {
        BorrowedWeight x = new BorrowedWeight();
        for (int i = 1; i <= 15; i++) {
            x.digs(1);
            due("kept", x.count(10), i);
        }
        for (int i = 14; i >= 0; i--) {
            due("undo", x.undo(), i);
            due("stock", x.count(3), 30 + i);
        }
        none("no more", x, x::undo);
    }

    static void p17_ofSixteenTheLatestFifteen() {
        BorrowedWeight x = new BorrowedWeight();
        for (int i = 1; i <= 16; i++) {
            x.digs(1);
        }
        due("kept", x.count(10), 15);
        for (int i = 14; i >= 0; i--) {
            due("undo", x.undo(), i);
        }
        none("no more", x, x::undo);
        due("the first stays", x.count(3), 31);
    }

    static void p17_roundAndRound() {
        BorrowedWeight x = new BorrowedWeight();
        int stock = 30;
        for (int round = 0; round < 6; round++) {
            for (int i = 0; i < 11; i++) {
                x.digs(1);
                stock++;
            }
            for (int i = 0; i < 7; i++) {
                x.undo();
                stock--;
                due("stock", x.count(3), stock);
            }
        }
        due("kept", x.count(10), 8);
        for (int i = 7; i >= 0; i--) {
            due("undo", x.undo(), i);
            stock--;
            due("stock", x.count(3), stock);
        }
    }

    static void p17_eachOfTheCalls() {
        BorrowedWeight x = with("9;2;3", "");
        undoes("strings", x, () -> text(x, "01;12").strings());
        undoes("hours", x, () -> x.hours(3));
        undoes("no hours", x, () -> x.hours(0));
        undoes("lends", x, () -> x.lends(0, 3));
        undoes("ties", x, () -> x.ties(0, 1));
        undoes("digs", x, () -> x.digs(5));
        undoes("night", x, () -> text(x, "l01n9n9").night());
        x.lends(0, 3);
        undoes("gives", x, () -> x.gives(0, 2));
        x.hours(9);
        undoes("pays", x, () -> x.pays(0));
        undoes("the hour in which things go", x, () -> x.hours(1));
    }

    /** One more can be undone by a call, and undo() brings all back but for the ROW and THE TEXT. */
    private static void undoes(String what, BorrowedWeight x, Runnable call) {
        // so that what was drawn earlier is not as it is now
        x.digs(1);
        int kept = x.count(10);
        x.evens();
        String before = view(x);
        call.run();
        due(what + ": one more", x.count(10), Math.min(15, kept + 1));
        due(what + ": undo", x.undo(), Math.min(14, kept));
        x.evens();
        unchanged(what + " undone", x, before);
    }

    static void p17_aStringThatIsCut() {
        BorrowedWeight x = with("1;1", "01");
        undoes("the last string is cut", x, () -> due("none is left", x.ties(0, 1), 0));
        due("it is back", x.count(2), 1);
    }

    static void p17_refusedOnesAreNotKept() {
        BorrowedWeight x = with("9;2", "01");
        due("one", x.count(10), 1);
        x.lends(0, 0);
        x.gives(0, 1);
        x.ties(0, 0);
        x.pays(0);
        x.digs(70);
        x.hours(61);
        text(x, "01").strings();
        text(x, "").strings();
        text(x, "02").strings();
        text(x, "").night();
        text(x, "p0n1").night();
        text(x, "n1x").night();
        due("still one", x.count(10), 1);
    }

    static void p17_aNightIsOne() {
        BorrowedWeight x = with("9;2", "");
        text(x, "l05t01n3l04p0").night();
        due("one", x.count(10), 1);
        due("undo", x.undo(), 0);
        due("stock", x.count(3), 30);
        due("strings", x.count(2), 0);
        due("taken", x.count(4), 0);
        due("hour", x.count(6), 0);
    }

    static void p17_aNightOfWhichOneActWasDone() {
        BorrowedWeight x = with("9;2", "");
        text(x, "l05l05n3").night();
        due("one", x.count(10), 1);
        due("undo", x.undo(), 0);
        due("stock", x.count(3), 30);
    }

    static void p17_whatIsNotBroughtBack() {
        BorrowedWeight x = with("9;2", "");
        x.digs(1);
        x.sheet(2, 2, 6, 1);
        text(x, "95").winds();
        text(x, "z+w").rule();
        x.seen(0, 0, 1);
        x.least(1);
        x.sign(0x31323334);
        due("undo", x.undo(), 0);
        due("sizes", x.thing(0, 0) * 10 + x.thing(1, 0), 67);
        due("wind", x.count(7), 9);
        due("need by the rule", x.thing(0, 5), 9);
        due("seen", x.count(9), 1);
        due("the row", x.count(11), 2);
        due("the text", x.count(12), 4);
    }

    static void p17_aGoneOneComesBack() {
        BorrowedWeight x = with("9;9;9", "02");
        x.lends(0, 3);
        x.hours(9);
        x.hours(1);
        due("gone", x.count(1), 0);
        due("lost", x.count(5), 3);
        due("undo", x.undo(), 3);
        due("there", x.count(1), 7);
        due("lost none", x.count(5), 0);
        due("its stones", x.thing(0, 1), 3);
        due("its string", x.thing(0, 6), 4);
        due("its height", x.thing(0, 2), 9);
    }

    static void p17_thingsForgetThem() {
        BorrowedWeight x = with("9", "");
        x.digs(1);
        due("an empty one does not", text(x, "").things(), 0);
        due("kept", x.count(10), 1);
        due("a refused one does not", text(x, "0").things(), -1);
        due("kept", x.count(10), 1);
        due("one does", text(x, "1").things(), 1);
        due("none", x.count(10), 0);
        none("none", x, x::undo);
        due("what was done stays", x.count(3), 31);
    }

    static void p17_againForgetsThem() {
        BorrowedWeight x = with("9", "");
        x.keep(0);
        x.digs(1);
        Check.no("a refused one does not", x.again(1));
        due("kept", x.count(10), 1);
        Check.yes("one does", x.again(0));
        due("none", x.count(10), 0);
        none("none", x, x::undo);
    }
}
