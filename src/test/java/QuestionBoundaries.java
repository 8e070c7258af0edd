/** Boundary cases of promises 18 to 30: what floats, what holds, loans. */
final class QuestionBoundaries extends Boundaries {
    /** Eight things that need nine each. */
    private static BorrowedWeight eightOfNine(String strings) {
        BorrowedWeight x = ruled("1;1;1;1;1;1;1;1", "9");
        text(x, strings).strings();
        return x;
    }

    private static final String CHAIN = "01;12;23;34;45;56;67";

    // ---- promise 18: floats

    static void p18_noThings() {
        BorrowedWeight x = new BorrowedWeight();
        row("none", x, x.floats(), 0, 0, 0);
    }

    static void p18_allGone() {
        BorrowedWeight x = allGone();
        row("none", x, x.floats(), 0, 0, 0);
    }

    static void p18_eightBundlesAndOne() {
        BorrowedWeight x = eightOfNine("");
        row("eight", x, x.floats(), 255, 8, 8);
        text(x, CHAIN).strings();
        row("one", x, x.floats(), 255, 1, 1);
    }

    static void p18_asManyAsNeededIsDown() {
        BorrowedWeight x = with("8;8", "");
        x.lends(0, 3);
        x.lends(1, 4);
        row("one lacks one", x, x.floats(), 1, 2, 1);
        x.lends(0, 1);
        row("none", x, x.floats(), 0, 2, 0);
    }

    static void p18_aBundleTogether() {
        BorrowedWeight x = with("8;8", "01");
        x.lends(0, 7);
        row("lacks one", x, x.floats(), 3, 1, 1);
        x.lends(0, 1);
        row("all by one", x, x.floats(), 0, 1, 0);
    }

    static void p18_itChangesNothing() {
        BorrowedWeight x = rich();
        x.floats();
        String before = view(x);
        x.floats();
        unchanged("floats", x, before);
    }

    // ---- promise 19: spare

    static void p19_noneSuch() {
        BorrowedWeight x = rich();
        none("thing", x, () -> x.spare(-1), () -> x.spare(4), () -> x.spare(8), () -> x.spare(MIN),
                () -> x.spare(MAX), () -> x.spare(33));
        BorrowedWeight full = full();
        none("the ninth", full, () -> full.spare(8));
    }

    static void p19_gone() {
        BorrowedWeight x = rich();
        refused("gone", x, -2, () -> x.spare(0));
    }

    static void p19_justEnough() {
        BorrowedWeight x = with("8", "");
        x.lends(0, 4);
        row("just", x, x.spare(0), 1000, 4, 4);
        x.lends(0, 1);
        row("one above", x, x.spare(0), 1001, 5, 4);
        x.gives(0, 2);
        row("lacks one", x, x.spare(0), 999, 3, 4);
    }

    static void p19_theMostAndTheLeast() {
        BorrowedWeight x = eightOfNine(CHAIN);
        row("lacks 72", x, x.spare(7), 928, 0, 72);
        BorrowedWeight y = full();
        text(y, CHAIN).strings();
        row("72 above", y, y.spare(0), 1072, 72, 0);
    }

    // ---- promise 20: height

    static void p20_noneSuch() {
        BorrowedWeight x = rich();
        none("thing", x, () -> x.height(-1, 1), () -> x.height(4, 1), () -> x.height(8, 1), () -> x.height(MIN, 1),
                () -> x.height(MAX, 1));
        BorrowedWeight full = full();
        none("the ninth", full, () -> full.height(8, 0));
    }

    static void p20_anotherN() {
        BorrowedWeight x = rich();
        none("n", x, () -> x.height(1, -1), () -> x.height(1, 100), () -> x.height(1, MIN), () -> x.height(1, MAX),
                () -> x.height(0, 100));
    }

    static void p20_now() {
        BorrowedWeight x = rich();
        row("now", x, x.height(3, 0), 2, 0, x.thing(3, 3));
    }

    static void p20_in99() {
        BorrowedWeight x = ruled("1", "(d>98)*9");
        x.lends(0, 1);
        row("in 99", x, x.height(0, 99), 0, 0, 99);
        text(x, "(d>97)*9").rule();
        row("just risen", x, x.height(0, 99), 1, 0, 99);
    }

    static void p20_goneIs9() {
        BorrowedWeight x = with("9", "");
        x.lends(0, 2);
        row("9 and there", x, x.height(0, 9), 9, 0, 18);
        row("9 and gone", x, x.height(0, 10), 9, 1, 18);
        x.hours(10);
        row("gone now", x, x.height(0, 0), 9, 1, 18);
        row("gone for ever", x, x.height(0, 99), 9, 1, 18);
    }

    static void p20_debt999() {
        BorrowedWeight x = full();
        x.hours(60);
        row("in 50", x, x.height(0, 50), 0, 0, 990);
        row("in 51", x, x.height(0, 51), 0, 0, 999);
        row("in 99", x, x.height(0, 99), 0, 0, 999);
    }

    static void p20_itChangesNothing() {
        BorrowedWeight x = rich();
        x.height(3, 99);
        String before = view(x);
        x.height(3, 99);
        unchanged("height", x, before);
        due("hour", x.count(6), 12);
        due("there", x.count(1), 14);
    }

    // ---- promise 21: gone

    static void p21_noneSuch() {
        BorrowedWeight x = rich();
        none("thing", x, () -> x.gone(-1), () -> x.gone(4), () -> x.gone(8), () -> x.gone(MIN), () -> x.gone(MAX));
        BorrowedWeight full = full();
        none("the ninth", full, () -> full.gone(8));
    }

    static void p21_itIs() {
        BorrowedWeight x = rich();
        row("it is", x, x.gone(0), 0, 0);
        BorrowedWeight y = allGone();
        row("with another", y, y.gone(1), 0, 1);
    }

    static void p21_inOneHour() {
        BorrowedWeight x = with("9", "");
        x.hours(9);
        row("one", x, x.gone(0), 1, 0);
        x.undo();
        row("ten", x, x.gone(0), 10, 0);
    }

    static void p21_in99AndIn100() {
        BorrowedWeight x = ruled("1", "(d>88)*9");
        x.lends(0, 1);
        row("in 99", x, x.gone(0), 99, 0);
        text(x, "(d>89)*9").rule();
        refused("in 100", x, -2, () -> x.gone(0));
    }

    static void p21_never() {
        BorrowedWeight x = rich();
        refused("never", x, -2, () -> x.gone(1));
    }

    static void p21_othersThatAreGoneThen() {
        BorrowedWeight x = with("9;9;9;1", "");
        x.lends(1, 4);
        x.hours(1);
        x.gives(1, 1);
        row("the first two", x, x.gone(0), 9, 1);
        row("the other in that hour", x, x.gone(2), 9, 1);
        row("the later one", x, x.gone(1), 10, 2);
    }

    // ---- promise 22: ahead

    static void p22_anotherN() {
        BorrowedWeight x = rich();
        none("n", x, () -> x.ahead(-1), () -> x.ahead(100), () -> x.ahead(MIN), () -> x.ahead(MAX));
    }

    static void p22_noThings() {
        BorrowedWeight x = new BorrowedWeight();
        x.least(0);
        row("none", x, x.ahead(0), 0);
        row("none in 99", x, x.ahead(99), 0);
    }

    static void p22_now() {
        BorrowedWeight x = rich();
        row("now", x, x.ahead(0), 9, 0, 3, 3, 3);
    }

    static void p22_in99() {
        BorrowedWeight x = ruled("1", "(d>88)*9");
        x.lends(0, 1);
        row("in 98", x, x.ahead(98), 1, 1);
        row("in 99", x, x.ahead(99), 0, 0);
    }

    static void p22_eight() {
        BorrowedWeight x = full();
        row("72", x, x.ahead(99), 72, 9, 9, 9, 9, 9, 9, 9, 9);
    }

    static void p22_itChangesNothing() {
        BorrowedWeight x = rich();
        x.ahead(99);
        due("stones", x.count(8), 9);
        due("hour", x.count(6), 12);
    }

    // ---- promise 23: least

    static void p23_bitsOfNoneSuch() {
        BorrowedWeight x = rich();
        none("bits", x, () -> x.least(16), () -> x.least(30), () -> x.least(-1), () -> x.least(MIN),
                () -> x.least(MAX), () -> x.least(256 + 2), () -> x.least(17));
        BorrowedWeight full = full();
        none("the ninth", full, () -> full.least(256), () -> full.least(511));
        BorrowedWeight empty = new BorrowedWeight();
        none("no things", empty, () -> empty.least(1));
    }

    static void p23_oneIsGone() {
        BorrowedWeight x = rich();
        refused("gone", x, -2, () -> x.least(1));
        refused("gone and others", x, -2, () -> x.least(15));
        none("gone and none such", x, () -> x.least(17));
    }

    static void p23_noBits() {
        BorrowedWeight x = rich();
        row("none", x, x.least(0), 0, 0, 0);
        BorrowedWeight empty = new BorrowedWeight();
        row("no things", empty, empty.least(0), 0, 0, 0);
    }

    static void p23_stockAsideAndMoreThanNine() {
        BorrowedWeight x = eightOfNine(CHAIN);
        row("72 of 30", x, x.least(128), 72, 1, 255);
        row("all of them the same", x, x.least(255), 72, 1, 255);
        BorrowedWeight y = eightOfNine("");
        row("eight bundles", y, y.least(255), 72, 8, 255);
    }

    static void p23_justEnough() {
        BorrowedWeight x = with("8;8", "");
        x.lends(0, 4);
        x.lends(1, 3);
        row("just enough", x, x.least(1), 0, 0, 0);
        row("one more", x, x.least(2), 1, 1, 2);
    }

    static void p23_moreThanEnoughHelpsNoOther() {
        BorrowedWeight x = with("8;8", "");
        x.lends(0, 9);
        row("both", x, x.least(3), 4, 1, 2);
    }

    static void p23_onlyToldBundles() {
        BorrowedWeight x = with("8;8;8;8", "02");
        row("one", x, x.least(2), 4, 1, 2);
        row("a pair by one", x, x.least(4), 8, 1, 5);
        row("two bundles", x, x.least(6), 12, 2, 7);
    }

    // ---- promise 24: surplus

    static void p24_noThings() {
        BorrowedWeight x = new BorrowedWeight();
        x.least(0);
        row("none", x, x.surplus(), 0);
    }

    static void p24_allGone() {
        BorrowedWeight x = allGone();
        row("none", x, x.surplus(), 0, 0, 0);
    }

    static void p24_justEnoughGivesNone() {
        BorrowedWeight x = with("8;8", "");
        x.lends(0, 4);
        x.lends(1, 5);
        row("one", x, x.surplus(), 1, 0, 1);
    }

    static void p24_thoseThatFloatGiveNone() {
        BorrowedWeight x = with("8;8;8", "01");
        x.lends(0, 7);
        x.lends(2, 9);
        row("the third alone", x, x.surplus(), 5, 0, 0, 5);
    }

    static void p24_fromTheFirstOneOn() {
        BorrowedWeight x = with("8;8;8", "02;21");
        x.lends(0, 4);
        x.lends(1, 9);
        x.lends(2, 9);
        row("all of the first, then of the next", x, x.surplus(), 10, 4, 6, 0);
        x.gives(0, 4);
        row("it has none", x, x.surplus(), 6, 0, 6, 0);
    }

    static void p24_all72() {
        BorrowedWeight x = full();
        row("all", x, x.surplus(), 72, 9, 9, 9, 9, 9, 9, 9, 9);
    }

    static void p24_nothingIsLeftOfAnEarlierAnswer() {
        BorrowedWeight x = full();
        due("all", x.surplus(), 72);
        text(x, "9").rule();
        row("just enough", x, x.surplus(), 0, 0, 0, 0, 0, 0, 0, 0, 0);
        x.ties(0, 7);
        x.way(7, 0);
        row("behind a way", x, x.surplus(), 0, 0, 0, 0, 0, 0, 0, 0, 0);
    }

    static void p24_needAsItIsNow() {
        BorrowedWeight x = ruled("1", "9-g");
        x.lends(0, 6);
        row("three", x, x.surplus(), 3, 3);
    }

    // ---- promise 25: vital

    static void p25_noStrings() {
        BorrowedWeight x = rich();
        x.ties(1, 2);
        row("none", x, x.vital(), 0, 0);
        BorrowedWeight empty = new BorrowedWeight();
        row("no things", empty, empty.vital(), 0, 0);
    }

    static void p25_nothingMoreWithout() {
        BorrowedWeight x = with("8;8", "01");
        row("both float already", x, x.vital(), 0, 1);
        x.lends(0, 4);
        x.lends(1, 4);
        row("both are down without", x, x.vital(), 0, 1);
    }

    static void p25_theLeastRow() {
        BorrowedWeight x = with("2;2;2;2", "32;21");
        x.lends(2, 3);
        row("two", x, x.vital(), 2, 2, 1, 2);
        x.lends(1, 1);
        row("one", x, x.vital(), 1, 2, 2, 3);
    }

    static void p25_eachAlone() {
        BorrowedWeight x = with("2;2;2", "01;12;02");
        x.lends(0, 3);
        row("a ring", x, x.vital(), 0, 3);
    }

    static void p25_all28() {
        BorrowedWeight x = full();
        for (int one = 0; one < 8; one++) {
            for (int other = one + 1; other < 8; other++) {
                x.ties(one, other);
            }
        }
        row("28", x, x.vital(), 0, 28);
        text(x, "9+(k<7)").rule();
        row("need no more than nine", x, x.vital(), 0, 28);
        text(x, "8+(k<7)").rule();
        x.gives(0, 7);
        row("need as it would be then", x, x.vital(), 28, 28, 0, 1);
    }

    static void p25_itChangesNothing() {
        BorrowedWeight x = rich();
        x.vital();
        String before = view(x);
        x.vital();
        unchanged("vital", x, before);
    }

    // ---- promise 26: tie

    static void p26_noneCanBeTied() {
        BorrowedWeight empty = new BorrowedWeight();
        refused("no things", empty, -2, empty::tie);
        BorrowedWeight one = with("9", "");
        refused("one", one, -2, one::tie);
        BorrowedWeight pair = with("9;9", "01");
        refused("a pair", pair, -2, pair::tie);
        BorrowedWeight gone = allGone();
        refused("all gone", gone, -2, gone::tie);
    }

    static void p26_oneNotGone() {
        BorrowedWeight x = with("9;1", "");
        x.hours(10);
        due("one left", x.count(1), 2);
        refused("one left", x, -2, x::tie);
    }

    static void p26_theLastPair() {
        BorrowedWeight x = with("9;9;9", "01;12");
        row("the last", x, x.tie(), 3, 0, 2, 3);
    }

    static void p26_ofAsGoodOnesTheLeastRow() {
        BorrowedWeight x = with("1;1;1", "");
        row("all as good", x, x.tie(), 0, 0, 1, 0);
        x.ties(0, 1);
        row("the next", x, x.tie(), 0, 0, 2, 0);
        x.ties(0, 2);
        row("the last", x, x.tie(), 0, 1, 2, 0);
    }

    static void p26_itMayBeWorseThanWithout() {
        BorrowedWeight x = ruled("1;1", "k");
        row("both float", x, x.tie(), 2, 0, 1, 0);
    }

    static void p26_allEightFloat() {
        BorrowedWeight x = eightOfNine("");
        row("eight", x, x.tie(), 8, 0, 1, 8);
    }

    static void p26_theLastTwoOfEight() {
        BorrowedWeight x = ruled("1;1;1;1;1;1;1;1", "(i=6)");
        x.lends(7, 1);
        row("6 and 7", x, x.tie(), 0, 6, 7, 1);
    }

    // ---- promise 27: binds

    static void p27_noThings() {
        BorrowedWeight x = new BorrowedWeight();
        row("none", x, x.binds(), 0, 0);
    }

    static void p27_allGone() {
        BorrowedWeight x = allGone();
        row("none", x, x.binds(), 0, 0);
    }

    static void p27_allStonesAreNotEnough() {
        BorrowedWeight x = with("8;8;8", "");
        x.lends(0, 9);
        x.lends(1, 2);
        refused("eleven of twelve", x, -2, x::binds);
        x.lends(1, 1);
        row("twelve of twelve", x, x.binds(), 2, 1);
    }

    static void p27_noneIsNeeded() {
        BorrowedWeight x = full();
        row("eight bundles", x, x.binds(), 0, 8);
    }

    static void p27_sevenAreNeeded() {
        BorrowedWeight x = ruled("1;1;1;1;1;1;1;1", "1+(i=7)");
        x.lends(0, 9);
        row("all in one", x, x.binds(), 7, 1);
        x.lends(7, 1);
        row("ten", x, x.binds(), 7, 1);
        x.lends(7, 1);
        row("the last alone", x, x.binds(), 6, 2);
    }

    static void p27_fourPairs() {
        BorrowedWeight x = ruled("1;1;1;1;1;1;1;1", "(i<4)*(i+1)");
        x.lends(4, 4);
        x.lends(5, 3);
        x.lends(6, 2);
        x.lends(7, 1);
        row("four pairs", x, x.binds(), 4, 4);
    }

    static void p27_whatIsTiedIsOne() {
        BorrowedWeight x = with("8;8;8;8", "01");
        x.lends(0, 9);
        x.lends(2, 8);
        row("the pair alone", x, x.binds(), 1, 2);
        x.gives(2, 1);
        row("by the spare one of the pair", x, x.binds(), 2, 1);
        x.gives(2, 1);
        refused("not enough", x, -2, x::binds);
    }

    static void p27_needAsItIsNow() {
        BorrowedWeight x = ruled("1;1", "1+k");
        x.lends(0, 2);
        row("whatever is tied", x, x.binds(), 1, 1);
    }

    // ---- promise 28: way

    static void p28_noneSuch() {
        BorrowedWeight x = rich();
        none("things", x, () -> x.way(1, 4), () -> x.way(4, 1), () -> x.way(-1, 1), () -> x.way(1, -1),
                () -> x.way(MIN, MAX), () -> x.way(9, 9), () -> x.way(0, 4), () -> x.way(4, 0));
        BorrowedWeight full = full();
        none("the ninth", full, () -> full.way(0, 8), () -> full.way(8, 8));
        BorrowedWeight empty = new BorrowedWeight();
        none("no things", empty, () -> empty.way(0, 0));
    }

    static void p28_likeOnes() {
        BorrowedWeight x = rich();
        row("like", x, x.way(3, 3), 0, 3);
    }

    static void p28_gone() {
        BorrowedWeight x = rich();
        refused("from", x, -2, () -> x.way(0, 1));
        refused("to", x, -2, () -> x.way(1, 0));
        refused("like", x, -2, () -> x.way(0, 0));
    }

    static void p28_noWay() {
        BorrowedWeight x = rich();
        refused("none", x, -2, () -> x.way(1, 3));
    }

    static void p28_oneString() {
        BorrowedWeight x = rich();
        row("one", x, x.way(2, 1), 1, 2, 1);
    }

    static void p28_theLongest() {
        BorrowedWeight x = eightOfNine(CHAIN);
        row("seven", x, x.way(0, 7), 7, 0, 1, 2, 3, 4, 5, 6, 7);
        row("back", x, x.way(7, 0), 7, 7, 6, 5, 4, 3, 2, 1, 0);
        x.ties(0, 7);
        row("round", x, x.way(7, 0), 1, 7, 0);
    }

    static void p28_ofAsShortWaysTheLeastRow() {
        BorrowedWeight x = eightOfNine("07;76;61;03;35;51;02;25");
        row("three", x, x.way(0, 1), 3, 0, 2, 5, 1);
        row("from the other end", x, x.way(1, 0), 3, 1, 5, 2, 0);
        x.ties(2, 5);
        row("the next", x, x.way(0, 1), 3, 0, 3, 5, 1);
    }

    static void p28_noWayBehindOneThatWas() {
        for (int end : new int[] {0, 7}) {
            BorrowedWeight x = eightOfNine(CHAIN);
            due("there is one", x.way(end, 7 - end), 7);
            x.ties(end, end == 0 ? 1 : 6);
            refused("from " + end, x, -2, () -> x.way(end, 7 - end));
            refused("to " + end, x, -2, () -> x.way(7 - end, end));
        }
    }

    static void p28_shortAheadOfLeast() {
        BorrowedWeight x = eightOfNine("01;12;23;05;53");
        row("the greater, but shorter", x, x.way(0, 3), 2, 0, 5, 3);
    }

    // ---- promise 29: serves

    static void p29_empty() {
        BorrowedWeight x = rich();
        refusedText(x, "", -1, x::serves);
    }

    static void p29_aSignThatCantStand() {
        BorrowedWeight x = rich();
        refusedText(x, "x", -1, x::serves);
        refusedText(x, "0x", -2, x::serves);
        refusedText(x, "00x", -3, x::serves);
        refusedText(x, "001x", -4, x::serves);
        refusedText(x, "001;", -4, x::serves);
        refusedText(x, "00111", -5, x::serves);
        refusedText(x, "0011,", -5, x::serves);
        refusedText(x, ";", -1, x::serves);
        refusedText(x, "0011;;", -6, x::serves);
        refusedText(x, "0:11", -2, x::serves);
        refusedText(x, "/011", -1, x::serves);
    }

    static void p29_endsTooEarly() {
        BorrowedWeight x = rich();
        for (String s : new String[] {"0", "00", "001", "0011;", "0011;0", "0011;00", "0011;001"}) {
            refusedText(x, s, -1 - s.length(), x::serves);
        }
    }

    static void p29_toLessThanFrom() {
        BorrowedWeight x = rich();
        refusedText(x, "1011", -2, x::serves);
        refusedText(x, "9811", -2, x::serves);
        refusedText(x, "0011;5411", -7, x::serves);
        row("not less", x, text(x, "9911").serves(), 1, 1);
        row("the longest", x, text(x, "0911").serves(), 1, 1);
    }

    static void p29_stonesNot0() {
        BorrowedWeight x = rich();
        refusedText(x, "0001", -3, x::serves);
        refusedText(x, "0011;0101", -8, x::serves);
        row("one", x, text(x, "0019").serves(), 9, 1);
        row("nine", x, text(x, "0099").serves(), 9, 1);
    }

    static void p29_noPrice() {
        BorrowedWeight x = rich();
        row("none is best", x, text(x, "0010").serves(), 0, 0);
        row("none of two", x, text(x, "0010;0010").serves(), 0, 0);
        row("without it", x, text(x, "0010;0011").serves(), 1, 2);
    }

    static void p29_eightLines() {
        BorrowedWeight x = rich();
        row("eight", x, text(x, times(7, "0011;") + "0019").serves(), 16, 255);
        refusedText(x, times(8, "0011;"), -41, x::serves);
        refusedText(x, times(8, "0011;") + "0", -41, x::serves);
        refusedText(x, times(8, "0011;") + "x", -41, x::serves);
        refusedText(x, times(16, "0011;"), -41, x::serves);
        refusedText(x, times(7, "0011;") + "0011x", -40, x::serves);
        refusedText(x, times(7, "0011;") + "00110", -40, x::serves);
    }

    static void p29_justTheStock() {
        BorrowedWeight x = rich();
        due("stock", x.count(3), 19);
        row("nineteen", x, text(x, "0091;0091;0011").serves(), 3, 7);
        row("twenty", x, text(x, "0091;0091;0021").serves(), 2, 3);
        x.digs(1);
        row("twenty of twenty", x, text(x, "0091;0091;0021").serves(), 3, 7);
    }

    static void p29_noStock() {
        BorrowedWeight x = with("1;1;1;1", "");
        text(x, "l09l19l29l33").night();
        due("stock", x.count(3), 0);
        row("none", x, text(x, "0019;1119").serves(), 0, 0);
    }

    static void p29_fromAndToWithThem() {
        BorrowedWeight x = with("1;1;1;1", "");
        text(x, "l09l19l29").night();
        row("they meet in an hour", x, text(x, "0323;3624").serves(), 4, 2);
        row("one ends ahead of the other", x, text(x, "0323;4624").serves(), 7, 3);
        row("the last hour", x, text(x, "0921;9922").serves(), 2, 2);
        row("the first hour", x, text(x, "0022;0921").serves(), 2, 1);
    }

    static void p29_fewestThenLeastBits() {
        BorrowedWeight x = with("1;1;1;1", "");
        text(x, "l09l19l29").night();
        row("fewest", x, text(x, "0011;0012;0033").serves(), 3, 4);
        row("least bits", x, text(x, "0033;0033").serves(), 3, 1);
        row("fewest, then least", x, text(x, "0011;0011;0011;0022;0022").serves(), 3, 9);
        row("two by two ways", x, text(x, "0012;0021;0022;0011").serves(), 4, 5);
    }

    static void p29_itChangesNothing() {
        BorrowedWeight x = rich();
        text(x, "0099").serves();
        due("stock", x.count(3), 19);
        due("text", x.count(12), 0);
    }

    // ---- promise 30: owes

    static void p30_anotherN() {
        BorrowedWeight x = rich();
        none("n", x, () -> x.owes(-1), () -> x.owes(100), () -> x.owes(MIN), () -> x.owes(MAX));
    }

    static void p30_noThings() {
        BorrowedWeight x = new BorrowedWeight();
        refused("now", x, -2, () -> x.owes(0));
        refused("in 99", x, -2, () -> x.owes(99));
        none("another n", x, () -> x.owes(100), () -> x.owes(-1));
    }

    static void p30_ofEqualOnesTheFirst() {
        BorrowedWeight x = with("1;1;1", "");
        row("none owes", x, x.owes(99), 0, 0, 0);
        x.lends(1, 2);
        x.lends(2, 2);
        row("now", x, x.owes(0), 0, 0, 0);
        row("in one", x, x.owes(1), 1, 2, 4);
    }

    static void p30_999AtMost() {
        BorrowedWeight x = with("1;1", "");
        x.lends(0, 8);
        x.lends(1, 9);
        x.hours(60);
        row("in 50", x, x.owes(50), 1, 990, 990 + 880);
        row("in 51", x, x.owes(51), 1, 999, 999 + 888);
        row("in 64", x, x.owes(64), 1, 999, 999 + 992);
        row("both have 999", x, x.owes(65), 0, 999, 1998);
        row("in 99", x, x.owes(99), 0, 999, 1998);
    }

    static void p30_eightThings() {
        BorrowedWeight x = full();
        row("all alike", x, x.owes(1), 0, 9, 72);
        x.hours(1);
        for (int i = 0; i < 7; i++) {
            x.pays(i);
        }
        row("the last", x, x.owes(0), 7, 9, 9);
        row("the last, at the end", x, x.owes(99), 7, 900, 900 + 7 * 891);
    }

    static void p30_aGoneOneToo() {
        BorrowedWeight x = with("9;1", "");
        x.lends(0, 3);
        x.lends(1, 1);
        x.hours(10);
        row("gone", x, x.owes(0), 0, 27, 37);
        row("as much", x, x.owes(17), 0, 27, 54);
        row("more", x, x.owes(18), 1, 28, 55);
    }
}
