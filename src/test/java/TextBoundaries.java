/** Boundary cases of promises 1 to 9: a new object, texts that are read, things, sheets. */
final class TextBoundaries extends Boundaries {
    private static final String FORTY = times(19, "1+") + "22";
    private static final String TWELVE = times(11, "01;") + "23";

    // ---- promise 1: a new object

    static void p01_noThings() {
        BorrowedWeight x = new BorrowedWeight();
        due("things", x.count(0), 0);
        due("things not gone", x.count(1), 0);
        due("stones of all", x.count(8), 0);
        thingThrows(x, 0, 0);
    }

    static void p01_theHouseAtFirst() {
        BorrowedWeight x = new BorrowedWeight();
        due("stock", x.count(3), 30);
        due("taken", x.count(4), 0);
        due("lost", x.count(5), 0);
    }

    static void p01_hourAndWindAtFirst() {
        BorrowedWeight x = new BorrowedWeight();
        due("hour", x.count(6), 0);
        due("wind", x.count(7), 0);
        x.hours(13);
        due("wind of each hour", x.count(7), 0);
    }

    static void p01_nothingToldSeenDoneOrKept() {
        BorrowedWeight x = new BorrowedWeight();
        due("strings", x.count(2), 0);
        due("seen", x.count(9), 0);
        due("can be undone", x.count(10), 0);
        due("numbers of the row", x.count(11), 0);
        due("signs of the text", x.count(12), 0);
        none("undo", x, x::undo);
        for (int i = 0; i < 3; i++) {
            int place = i;
            refusedFlag("again " + i, x, () -> x.again(place));
        }
        rowThrows(x, 0);
    }

    static void p01_aThingAtFirst() {
        BorrowedWeight x = with("5;6", "");
        int[] first = {6, 0, 0, 0, 0, 3, 0, 2};
        for (int what = 0; what < first.length; what++) {
            due("what " + what, x.thing(1, what), first[what]);
        }
    }

    static void p01_theRuleAtFirst() {
        BorrowedWeight x = with("1;2;3;4;5;6;8;9", "");
        int[] still = {0, 1, 1, 2, 2, 3, 4, 4};
        int[] by = {0, 0, 0, 1, 1, 1, 2, 2, 2, 3};
        for (int wind = 0; wind <= 9; wind++) {
            text(x, String.valueOf(wind)).winds();
            for (int i = 0; i < 8; i++) {
                due("need of " + i + " at wind " + wind, x.thing(i, 5), still[i] + by[wind]);
            }
        }
    }

    static void p01_objectsAreApart() {
        BorrowedWeight x = rich();
        BorrowedWeight y = new BorrowedWeight();
        due("things", y.count(0), 0);
        due("stock", y.count(3), 30);
        due("those of the first", x.count(0), 4);
    }

    // ---- promise 2: sign

    static void p02_eightySignsAreRoom() {
        BorrowedWeight x = new BorrowedWeight();
        for (int i = 1; i <= 20; i++) {
            due("sign " + i, x.sign(0), 4 * i);
        }
        due("signs", x.count(12), 80);
    }

    static void p02_moreThanEightyIsRefused() {
        for (int signs = 77; signs <= 80; signs++) {
            BorrowedWeight x = text(rich(), times(signs, "1"));
            String before = view(x);
            due("from " + signs, x.sign(0x31313131), BorrowedWeight.NONE);
            due("signs", x.count(12), signs);
            unchanged("from " + signs, x, before);
        }
    }

    static void p02_justEighty() {
        BorrowedWeight x = text(new BorrowedWeight(), times(76, "1"));
        due("from 76", x.sign(0), 80);
    }

    static void p02_refusedLeavesTheSignsAsTheyWere() {
        BorrowedWeight x = text(new BorrowedWeight(), times(79, "7"));
        x.sign(0x78787878);
        x.end(20);
        due("the sevens", x.winds(), 20);
    }

    static void p02_theHighestByteIsFirst() {
        BorrowedWeight x = with("1", "");
        x.sign('9' << 24 | '1' << 16 | '2' << 8 | '3');
        due("four winds", x.winds(), 4);
        int[] want = {9, 1, 2, 3, 9};
        for (int wind : want) {
            due("wind", x.count(7), wind);
            x.hours(1);
        }
    }

    static void p02_comesBehindWhatIsThere() {
        BorrowedWeight x = new BorrowedWeight();
        x.sign(0x31323334);
        x.end(1);
        due("behind one", x.sign(0x37383930), 5);
        due("five winds", x.winds(), 5);
        x.hours(1);
        due("the second", x.count(7), 7);
    }

    static void p02_bytesAbove127AreSignsOfTheirOwn() {
        for (int high : new int[] {128, 128 + '5', 255}) {
            BorrowedWeight x = new BorrowedWeight();
            due("highest byte", x.sign(high << 24), 4);
            refusedNow(x, -1);
            due("lowest byte", x.sign(0x31323300 | high), 4);
            refusedNow(x, -4);
        }
        BorrowedWeight x = new BorrowedWeight();
        due("all bits", x.sign(-1), 4);
        refusedNow(x, -1);
        due("the least int", x.sign(MIN), 4);
        refusedNow(x, -1);
        due("the greatest int", x.sign(MAX), 4);
        refusedNow(x, -1);
    }

    private static void refusedNow(BorrowedWeight x, int want) {
        due("winds", x.winds(), want);
        due("emptied", x.count(12), 0);
    }

    // ---- promise 3: end

    static void p03_belowNone() {
        BorrowedWeight x = text(rich(), "12345");
        refusedFlag("-1", x, () -> x.end(-1));
        refusedFlag("the least int", x, () -> x.end(MIN));
    }

    static void p03_notSoMany() {
        BorrowedWeight x = text(rich(), "12345");
        Check.no("6 of 5", x.end(6));
        Check.no("the greatest int", x.end(MAX));
        due("as it was", x.count(12), 5);
        BorrowedWeight empty = new BorrowedWeight();
        Check.no("1 of none", empty.end(1));
        due("none", empty.count(12), 0);
    }

    static void p03_justSoMany() {
        BorrowedWeight x = text(rich(), "12345");
        Check.yes("5 of 5", x.end(5));
        due("all", x.count(12), 5);
        due("the five", x.winds(), 5);
        BorrowedWeight full = text(new BorrowedWeight(), times(80, "1"));
        Check.yes("80 of 80", full.end(80));
        due("all", full.count(12), 80);
    }

    static void p03_none() {
        BorrowedWeight x = text(new BorrowedWeight(), "12345");
        Check.yes("0 of 5", x.end(0));
        due("none", x.count(12), 0);
        Check.yes("0 of none", x.end(0));
    }

    static void p03_theFirstOnesStay() {
        BorrowedWeight x = text(new BorrowedWeight(), "98x");
        Check.yes("two", x.end(2));
        due("two winds", x.winds(), 2);
        due("the first", x.count(7), 9);
    }

    static void p03_whatWasCutDoesNotComeBack() {
        BorrowedWeight x = text(new BorrowedWeight(), "12345");
        x.end(2);
        Check.no("5 of 2", x.end(5));
        due("two", x.count(12), 2);
    }

    // ---- promise 4: things

    static void p04_empty() {
        BorrowedWeight x = rich();
        String before = view(x);
        due("empty", text(x, "").things(), 0);
        unchanged("empty", x, before);
        BorrowedWeight full = full();
        due("empty, full", text(full, "").things(), 0);
    }

    static void p04_sizes1To9() {
        BorrowedWeight x = new BorrowedWeight();
        due("1 and 9", text(x, "1;9").things(), 2);
        due("least", x.thing(0, 0), 1);
        due("most", x.thing(1, 0), 9);
        refusedText(x, "0", -1, x::things);
        refusedText(x, "5;0", -3, x::things);
        refusedText(x, "/", -1, x::things);
        refusedText(x, ":", -1, x::things);
        refusedText(x, "5;:", -3, x::things);
    }

    static void p04_endsTooEarly() {
        BorrowedWeight x = rich();
        refusedText(x, "1;", -3, x::things);
        refusedText(x, "1;2;", -5, x::things);
    }

    static void p04_aSignThatCantStand() {
        BorrowedWeight x = rich();
        refusedText(x, ";", -1, x::things);
        refusedText(x, "12", -2, x::things);
        refusedText(x, "1,2", -2, x::things);
        refusedText(x, "1;;", -3, x::things);
        refusedText(x, "1;2 ", -4, x::things);
        refusedText(x, " 1", -1, x::things);
        refusedText(x, "-1", -1, x::things);
    }

    static void p04_eightAreRoom() {
        for (int there = 0; there < 8; there++) {
            BorrowedWeight x = new BorrowedWeight();
            text(x, lines(there)).things();
            due("up to eight from " + there, text(x, lines(8 - there)).things(), 8 - there);
            due("things", x.count(0), 8);
        }
    }

    static void p04_theFirstSignOfALineForWhichThereIsNoRoom() {
        for (int there = 1; there <= 8; there++) {
            BorrowedWeight x = new BorrowedWeight();
            text(x, lines(there)).things();
            refusedText(x, lines(9 - there), -1 - 2 * (8 - there), x::things);
            due("none of it came", x.count(0), there);
        }
    }

    static void p04_noRoomAndAFaultAheadOrBehind() {
        BorrowedWeight x = with(lines(7), "");
        refusedText(x, "x;1;1", -1, x::things);
        refusedText(x, "1;1;x", -3, x::things);
        refusedText(x, "1;0", -3, x::things);
        refusedText(x, "1;", -3, x::things);
        refusedText(x, "11;1", -2, x::things);
    }

    static void p04_moreThanFifteenSigns() {
        BorrowedWeight x = new BorrowedWeight();
        refusedText(x, lines(8) + ";", -16, x::things);
        refusedText(x, lines(8) + "x", -16, x::things);
        refusedText(x, lines(9), -16, x::things);
        refusedText(x, lines(40), -16, x::things);
        due("none", x.count(0), 0);
    }

    static void p04_moreThanFifteenSignsAndAnEarlierFault() {
        BorrowedWeight x = new BorrowedWeight();
        refusedText(x, "1;1;1;1;1;1;1;0;1", -15, x::things);
        refusedText(x, "1;1;1;1;1;1;1x1;1", -14, x::things);
        refusedText(x, "0;1;1;1;1;1;1;1;1", -1, x::things);
        BorrowedWeight one = with("1", "");
        refusedText(one, lines(9), -15, one::things);
    }

    static void p04_justFifteenSigns() {
        BorrowedWeight x = new BorrowedWeight();
        due("eight", text(x, "9;8;7;6;5;4;3;2").things(), 8);
        due("the first", x.thing(0, 0), 9);
        due("the last", x.thing(7, 0), 2);
    }

    static void p04_nothingOfItComesIfALineCant() {
        BorrowedWeight x = rich();
        refusedText(x, "1;2;3;x", -7, x::things);
        due("four", x.count(0), 4);
    }

    static void p04_eachOneMore() {
        BorrowedWeight x = with("3", "");
        x.lends(0, 2);
        due("two", text(x, "4;5").things(), 2);
        due("behind those there", x.thing(2, 0), 5);
        due("the first stays", x.thing(0, 0) * 10 + x.thing(0, 1), 32);
    }

    private static String lines(int n) {
        return n == 0 ? "" : times(n - 1, "1;") + "1";
    }

    // ---- promise 5: strings

    static void p05_empty() {
        BorrowedWeight x = rich();
        String before = view(x);
        due("empty", text(x, "").strings(), 0);
        unchanged("empty", x, before);
        due("no things", new BorrowedWeight().strings(), 0);
    }

    static void p05_aThingThatIsNotThere() {
        BorrowedWeight x = with("1;1;1", "01");
        refusedText(x, "30", -1, x::strings);
        refusedText(x, "03", -2, x::strings);
        refusedText(x, "02;13", -5, x::strings);
        refusedText(x, "93", -1, x::strings);
        BorrowedWeight none = new BorrowedWeight();
        refusedText(none, "01", -1, none::strings);
        BorrowedWeight full = full();
        refusedText(full, "80", -1, full::strings);
        refusedText(full, "78", -2, full::strings);
        due("the last two", text(full, "76").strings(), 1);
    }

    static void p05_aThingThatIsGone() {
        BorrowedWeight x = rich();
        refusedText(x, "01", -1, x::strings);
        refusedText(x, "10", -2, x::strings);
        refusedText(x, "13;23;30", -8, x::strings);
        due("as it was", x.count(2), 1);
    }

    static void p05_theFirstOneAgain() {
        BorrowedWeight x = with("1;1;1", "");
        refusedText(x, "00", -2, x::strings);
        refusedText(x, "01;22", -5, x::strings);
        due("none of it", x.count(2), 0);
    }

    static void p05_endsTooEarly() {
        BorrowedWeight x = with("1;1;1", "");
        refusedText(x, "0", -2, x::strings);
        refusedText(x, "01;", -4, x::strings);
        refusedText(x, "01;2", -5, x::strings);
    }

    static void p05_aSignThatCantStand() {
        BorrowedWeight x = with("1;1;1", "");
        refusedText(x, ";", -1, x::strings);
        refusedText(x, "x1", -1, x::strings);
        refusedText(x, "0x", -2, x::strings);
        refusedText(x, "0;1", -2, x::strings);
        refusedText(x, "012", -3, x::strings);
        refusedText(x, "01,12", -3, x::strings);
        refusedText(x, "01;;", -4, x::strings);
    }

    static void p05_twelveLines() {
        BorrowedWeight x = with("1;1;1;1", "");
        due("thirty-five signs", TWELVE.length(), 35);
        due("two of twelve", text(x, TWELVE).strings(), 2);
    }

    static void p05_moreThanThirtyFiveSigns() {
        BorrowedWeight x = with("1;1;1;1", "");
        refusedText(x, TWELVE + ";", -36, x::strings);
        refusedText(x, TWELVE + "x", -36, x::strings);
        refusedText(x, TWELVE + ";01", -36, x::strings);
        refusedText(x, times(26, "01;"), -36, x::strings);
        refusedText(x, TWELVE.substring(0, 34) + "9;01", -35, x::strings);
        refusedText(x, "9" + times(20, "01;"), -1, x::strings);
        due("none", x.count(2), 0);
    }

    static void p05_onlyThoseThatWereNot() {
        BorrowedWeight x = with("1;1;1", "01");
        due("tied already", text(x, "01").strings(), 0);
        due("the other way round", text(x, "10").strings(), 0);
        due("twice in one", text(x, "12;21;12").strings(), 1);
        due("it is not cut", x.count(2), 2);
    }

    static void p05_noneTiedCantBeUndone() {
        BorrowedWeight x = with("1;1;1", "01");
        due("one", x.count(10), 1);
        text(x, "01;10").strings();
        due("still one", x.count(10), 1);
        text(x, "01;12").strings();
        due("two", x.count(10), 2);
    }

    static void p05_allPairs() {
        BorrowedWeight x = full();
        StringBuilder s = new StringBuilder();
        int tied = 0;
        for (int one = 0; one < 8; one++) {
            for (int other = one + 1; other < 8; other++) {
                s.append(s.length() == 0 ? "" : ";").append(one).append(other);
                if (s.length() == 35 || one == 6) {
                    tied += text(x, s.toString()).strings();
                    s.setLength(0);
                }
            }
        }
        due("tied", tied, 28);
        due("strings", x.count(2), 28);
        due("no more", text(x, "07;70").strings(), 0);
        due("one to all", x.thing(0, 6), 254);
        due("the last to all", x.thing(7, 6), 127);
        due("a bundle", x.thing(3, 7), 255);
    }

    // ---- promise 6: winds

    static void p06_none() {
        BorrowedWeight x = rich();
        refusedText(x, "", -1, x::winds);
        due("the wind stays", x.count(7), 3);
    }

    static void p06_one() {
        BorrowedWeight x = rich();
        due("one", text(x, "8").winds(), 1);
        for (int hour = 0; hour < 3; hour++) {
            due("each hour", x.count(7), 8);
            x.hours(1);
        }
    }

    static void p06_twenty() {
        BorrowedWeight x = new BorrowedWeight();
        due("twenty", text(x, times(19, "1") + "7").winds(), 20);
        x.hours(18);
        due("the nineteenth", x.count(7), 1);
        x.hours(1);
        due("the twentieth", x.count(7), 7);
        x.hours(1);
        due("round to the first", x.count(7), 1);
        x.hours(19);
        due("the twentieth again", x.count(7), 7);
    }

    static void p06_aTwentyFirstSign() {
        BorrowedWeight x = rich();
        refusedText(x, times(21, "1"), -21, x::winds);
        refusedText(x, times(20, "1") + "x", -21, x::winds);
        refusedText(x, times(80, "1"), -21, x::winds);
        refusedText(x, times(19, "1") + "x1", -20, x::winds);
        due("the wind stays", x.count(7), 3);
    }

    static void p06_aSignThatCantStand() {
        BorrowedWeight x = rich();
        refusedText(x, "x", -1, x::winds);
        refusedText(x, "1/", -2, x::winds);
        refusedText(x, "12:", -3, x::winds);
        refusedText(x, "1;2", -2, x::winds);
        refusedText(x, "-1", -1, x::winds);
        due("the wind stays", x.count(7), 3);
    }

    static void p06_roundByHowManyThereAre() {
        BorrowedWeight x = new BorrowedWeight();
        text(x, "123").winds();
        x.hours(2);
        due("hour 2", x.count(7), 3);
        x.hours(1);
        due("hour 3", x.count(7), 1);
        x.hours(60);
        due("hour 63", x.count(7), 1);
        text(x, "12").winds();
        due("hour 63 by two", x.count(7), 2);
        text(x, "0987654").winds();
        due("hour 63 by seven", x.count(7), 0);
    }

    static void p06_fewerThanBefore() {
        BorrowedWeight x = new BorrowedWeight();
        text(x, times(20, "9")).winds();
        text(x, "01").winds();
        x.hours(2);
        due("by two", x.count(7), 0);
    }

    // ---- promise 7: rule

    static void p07_none() {
        BorrowedWeight x = ruled("9", "7");
        due("by it", x.thing(0, 5), 7);
        due("none", text(x, "").rule(), 0);
        due("by none", x.thing(0, 5), 4);
    }

    static void p07_fortySigns() {
        BorrowedWeight x = ruled("1", "0");
        due("signs", FORTY.length(), 40);
        due("forty", text(x, FORTY).rule(), 0);
        due("by it", x.thing(0, 5), 9);
        due("thirty-nine", text(x, FORTY.substring(0, 39)).rule(), 0);
        due("forty minus signs and a number", text(x, times(38, "-") + "07").rule(), 0);
        due("an even many", x.thing(0, 5), 7);
        due("an odd many", text(x, times(39, "-") + "7").rule(), 0);
        due("below 0", x.thing(0, 5), 0);
    }

    static void p07_moreThanFortySigns() {
        BorrowedWeight x = ruled("1", "5");
        refusedText(x, FORTY + "2", -41, x::rule);
        refusedText(x, FORTY + "+1", -41, x::rule);
        refusedText(x, FORTY + "x", -41, x::rule);
        refusedText(x, times(40, "-") + "1", -41, x::rule);
        refusedText(x, "(" + times(19, "1+") + "1)", -41, x::rule);
        refusedText(x, times(80, "-"), -41, x::rule);
        due("the rule stays", x.thing(0, 5), 5);
    }

    static void p07_moreThanFortySignsAndAnEarlierFault() {
        BorrowedWeight x = ruled("1", "5");
        refusedText(x, FORTY.substring(0, 39) + "x+1", -40, x::rule);
        refusedText(x, "+" + FORTY, -1, x::rule);
        refusedText(x, times(19, "1+") + "+1+1", -39, x::rule);
    }

    static void p07_fortySignsThatEndTooEarly() {
        BorrowedWeight x = ruled("1", "5");
        refusedText(x, times(20, "1+"), -41, x::rule);
        refusedText(x, "(" + times(19, "1+") + "1", -41, x::rule);
        refusedText(x, times(40, "-"), -41, x::rule);
    }

    static void p07_endsTooEarly() {
        BorrowedWeight x = ruled("1", "5");
        for (String s : new String[] {"-", "(", "z+", "z<", "(z", "(z+1", "((z)", "z*-", "1+(2"}) {
            refusedText(x, s, -1 - s.length(), x::rule);
        }
        due("the rule stays", x.thing(0, 5), 5);
    }

    static void p07_numbersOf1To3Digits() {
        value("7", 7);
        value("09", 9);
        value("008", 8);
        value("999-998", 1);
        BorrowedWeight x = ruled("1", "5");
        refusedText(x, "0007", -4, x::rule);
        refusedText(x, "1000", -4, x::rule);
        refusedText(x, "z+1234", -6, x::rule);
        refusedText(x, "12 ", -3, x::rule);
    }

    static void p07_aNumberEndsAtOtherSigns() {
        value("999-99-900+3", 3);
        value("(12)/12+1", 2);
        BorrowedWeight x = ruled("1", "5");
        refusedText(x, "(1)2", -4, x::rule);
        refusedText(x, "z2", -2, x::rule);
        refusedText(x, "2z", -2, x::rule);
        refusedText(x, "2(", -2, x::rule);
    }

    static void p07_fourInOneAnother() {
        value("((((7))))", 7);
        value("((((1))))+((((2))))", 3);
        value("(1+(1+(1+(1+1))))", 5);
        BorrowedWeight x = ruled("1", "5");
        refusedText(x, "(((((7)))))", -5, x::rule);
        refusedText(x, "((((7))))+(((((1", -15, x::rule);
        refusedText(x, "(1)+(2)+(3)+(4)+((((-(", -22, x::rule);
    }

    static void p07_bracketsThatDontFit() {
        BorrowedWeight x = ruled("1", "5");
        refusedText(x, ")", -1, x::rule);
        refusedText(x, "()", -2, x::rule);
        refusedText(x, "1)", -2, x::rule);
        refusedText(x, "(1))", -4, x::rule);
        refusedText(x, "(1)(2)", -4, x::rule);
        refusedText(x, "(1+)", -4, x::rule);
        refusedText(x, "(-)", -3, x::rule);
    }

    static void p07_notOneComparisonBehindTheOther() {
        BorrowedWeight x = ruled("1", "5");
        refusedText(x, "1<2<3", -4, x::rule);
        refusedText(x, "1=1=1", -4, x::rule);
        refusedText(x, "1>2=3", -4, x::rule);
        refusedText(x, "1<2+3*4>5", -8, x::rule);
        refusedText(x, "(1<2=3)", -5, x::rule);
        refusedText(x, "1<(2<3)<4", -8, x::rule);
        refusedText(x, "1<<2", -3, x::rule);
        refusedText(x, "1<=2", -3, x::rule);
    }

    static void p07_oneComparisonInEachBracket() {
        value("(1<2)<(3>2)", 0);
        value("(1<2)=(3>2)", 1);
        value("((1<2)+1)=(2>1)+1", 1);
        value("1<(1<(1=1)+1)+1", 1);
    }

    static void p07_comparisonsAreOneOrNone() {
        value("1<2", 1);
        value("2<2", 0);
        value("3<2", 0);
        value("1>2", 0);
        value("2>2", 0);
        value("3>2", 1);
        value("1=2", 0);
        value("2=2", 1);
        value("-1<0", 1);
        value("0>-1", 1);
    }

    static void p07_signsThatAreNone() {
        BorrowedWeight x = ruled("1", "5");
        for (String s : new String[] {"y", "Z", "+1", "*1", "/1", "<1", "=1", " ", ";", "~1", "%", "x"}) {
            refusedText(x, s, -1, x::rule);
        }
        for (String s : new String[] {"1~1", "1%2", "z z", "zz", "z;", "1,", "zw", "1&1"}) {
            refusedText(x, s, -2, x::rule);
        }
        refusedText(x, "1+*2", -3, x::rule);
        refusedText(x, "1*/2", -3, x::rule);
        due("the rule stays", x.thing(0, 5), 5);
    }

    static void p07_minusAheadAnyMany() {
        value("-1+3", 2);
        value("--3", 3);
        value("---3+9", 6);
        value("3--3", 6);
        value("9---3", 6);
        value("-(-(4))", 4);
        value("2*--3", 6);
        value("-2*-3", 6);
    }

    static void p07_whatBindsFirst() {
        value("1+2*3", 7);
        value("9-3-2", 4);
        value("9-3+2", 8);
        value("8/4/2", 1);
        value("9/2*2", 8);
        value("2*9/4", 4);
        value("1+1<1*3", 1);
        value("2<1+4*0", 0);
        value("1+(1<2)", 2);
    }

    static void p07_byNothingIsNothing() {
        value("9/0", 0);
        value("0/0+4", 4);
        value("9/(1-1)+2", 2);
        value("5-7/(z-1)", 5);
    }

    static void p07_quotientsAreCutTo0() {
        value("7/2", 3);
        value("-7/2+9", 6);
        value("7/-2+9", 6);
        value("-7/-2", 3);
        value("-1/2+1", 1);
    }

    static void p07_putTo0To9() {
        value("0", 0);
        value("9", 9);
        value("10", 9);
        value("999", 9);
        value("-1", 0);
        value("-999*999", 0);
    }

    static void p07_asInts() {
        // 46341 * 46341 is 4633 above 2 to the 31st, so below 0 as an int
        value("(46*999+387)*(46*999+387)", 0);
        value("-(46*999+387)*(46*999+387)", 9);
        value("0-(46*999+386)*(46*999+386)", 0);
        // 2 to the 31st by repeated squares: below 0, and less itself still below 0
        value("256*256*256*128", 0);
        value("-(256*256*256*128)", 0);
        value("-(256*256*256*128)-1", 9);
        value("256*256*256*128/-1", 0);
        value("256*256*256*256+3", 3);
    }

    static void p07_hourBySeven() {
        BorrowedWeight x = ruled("1", "n");
        x.lends(0, 9);
        for (int hour = 0; hour <= 15; hour++) {
            due("hour " + hour, x.thing(0, 5), hour % 7);
            x.hours(1);
        }
    }

    static void p07_whatCouldNotStandLeavesNothingBehind() {
        String[] faults = {"-", "--", "(", "((((", "1<", "-(", "12+", "3*-", "1234", "z1", "12)", times(41, "-")};
        for (String fault : faults) {
            BorrowedWeight x = ruled("1", "5");
            Check.yes("fault " + fault, text(x, fault).rule() < 0);
            due("behind " + fault, text(x, "8-1<7").rule(), 0);
            due("by it", x.thing(0, 5), 0);
            Check.yes("fault again " + fault, text(x, fault).rule() < 0);
            due("a number behind " + fault, text(x, "6").rule(), 0);
            due("by the number", x.thing(0, 5), 6);
        }
    }

    static void p07_noNumberGoesOnFromAnEarlierText() {
        BorrowedWeight x = ruled("1", "5");
        for (String number : new String[] {"1", "12"}) {
            due("a number", text(x, number).law(), 0);
            refusedText(x, "z1", -2, x::rule);
            due("a number", text(x, number).law(), 0);
            refusedText(x, "(z1", -3, x::rule);
        }
    }

    static void p07_theTextIsEmptiedByEachReader() {
        BorrowedWeight x = with("9;9", "");
        due("things", text(x, "9").things(), 1);
        due("emptied", x.count(12), 0);
        due("strings", text(x, "01").strings(), 1);
        due("emptied", x.count(12), 0);
        due("winds", text(x, "0").winds(), 1);
        due("emptied", x.count(12), 0);
        due("rule", text(x, "1").rule(), 0);
        due("emptied", x.count(12), 0);
        due("night", text(x, "n1").night(), 1);
        due("emptied", x.count(12), 0);
        due("serves", text(x, "0011").serves(), 1);
        due("emptied", x.count(12), 0);
        due("law", text(x, "1").law(), 0);
        due("emptied", x.count(12), 0);
    }

    static void p07_namesOfAThing() {
        BorrowedWeight x = rich();
        named(x, "z", 4, 6, 8);
        named(x, "w", 3, 3, 3);
        named(x, "k", 1, 1, 0);
        named(x, "g", 3, 3, 3);
        named(x, "h", 0, 0, 2);
        named(x, "d/9", 0, 4, 5);
        named(x, "i", 1, 2, 3);
        named(x, "n", 5, 5, 5);
    }

    private static void named(BorrowedWeight x, String rule, int... needs) {
        due("rule " + rule, text(x, rule).rule(), 0);
        due(rule + " of a gone one", x.thing(0, 5), 0);
        for (int i = 0; i < needs.length; i++) {
            due(rule + " of " + (i + 1), x.thing(i + 1, 5), needs[i]);
        }
    }

    private static void value(String rule, int need) {
        due("need by " + rule, ruled("1", rule).thing(0, 5), need);
    }

    // ---- promise 8: thing

    static void p08_noneSuch() {
        for (int thing : new int[] {-1, 4, 5, 8, 31, 32, MIN, MAX}) {
            thingThrows(rich(), thing, 0);
        }
        for (int thing : new int[] {-1, 8, 32, 256}) {
            thingThrows(full(), thing, 0);
        }
        thingThrows(new BorrowedWeight(), 0, 7);
    }

    static void p08_anotherWhat() {
        for (int what : new int[] {-1, 8, 9, MIN, MAX}) {
            thingThrows(rich(), 0, what);
            thingThrows(rich(), 1, what);
            thingThrows(rich(), 4, what);
        }
    }

    static void p08_theLastThing() {
        BorrowedWeight x = full();
        due("stones", x.thing(7, 1), 9);
        due("bundle", x.thing(7, 7), 128);
        due("the last what", x.thing(0, 7), 1);
    }

    static void p08_aGoneOne() {
        BorrowedWeight x = rich();
        int[] gone = {9, 0, 9, 18, 1, 0, 0, 0};
        for (int what = 0; what < gone.length; what++) {
            due("what " + what, x.thing(0, what), gone[what]);
        }
        text(x, "9").rule();
        due("need 0, whatever the rule", x.thing(0, 5), 0);
        due("need of another", x.thing(1, 5), 9);
    }

    static void p08_notGone() {
        due("not gone", rich().thing(1, 4), 0);
    }

    // ---- promise 9: sheet

    static void p09_anotherKind() {
        for (int kind : new int[] {-1, 4, MIN, MAX}) {
            BorrowedWeight x = rich();
            none("kind " + kind, x, () -> x.sheet(kind, 2, 5, 1), () -> x.sheet(kind, -1, 5, 1),
                    () -> x.sheet(kind, 9, 5, 1));
        }
    }

    static void p09_moreThanEight() {
        for (int kind = 0; kind <= 3; kind++) {
            int each = kind;
            BorrowedWeight x = rich();
            none("kind " + kind, x, () -> x.sheet(each, 9, 5, 1), () -> x.sheet(each, MAX, 5, 1));
        }
    }

    static void p09_justEight() {
        BorrowedWeight x = full();
        due("eight", x.sheet(2, 8, 2, 1), 2 + 3 + 4 + 5 + 6 + 7 + 8 + 9);
        due("the last", x.thing(7, 0), 9);
    }

    static void p09_nBelow0() {
        for (int kind = 0; kind <= 2; kind++) {
            int each = kind;
            BorrowedWeight x = rich();
            refused("n -1, kind " + kind, x, -2, () -> x.sheet(each, -1, 5, 1));
            refused("the least int, kind " + kind, x, -2, () -> x.sheet(each, MIN, 5, 1));
        }
    }

    static void p09_missing() {
        for (int n : new int[] {MIN, -1, 0, 3, 8}) {
            BorrowedWeight x = with("5;6;7", "");
            due("n " + n, x.sheet(3, n, 4, 4), -3);
            due("all 1", x.thing(0, 0) * 100 + x.thing(1, 0) * 10 + x.thing(2, 0), 111);
        }
        due("no things", new BorrowedWeight().sheet(3, 1, 1, 1), -3);
    }

    static void p09_noEntries() {
        for (int kind = 0; kind <= 2; kind++) {
            BorrowedWeight x = with("5;6;7", "");
            due("none, kind " + kind, x.sheet(kind, 0, 4, 4), 3);
            due("all 1", x.thing(0, 0) * 100 + x.thing(1, 0) * 10 + x.thing(2, 0), 111);
        }
    }

    static void p09_thoseBehindItHave1() {
        BorrowedWeight x = with("5;6;7", "");
        due("one", x.sheet(2, 1, 4, 4), 4 + 1 + 1);
        due("two", x.sheet(2, 2, 4, 4), 4 + 8 + 1);
        due("the last", x.thing(2, 0), 1);
    }

    static void p09_moreEntriesThanThings() {
        BorrowedWeight x = with("5;6", "");
        due("three", x.sheet(2, 3, 4, 1), 4 + 5);
        due("eight", x.sheet(0, 8, 4, 1), 4 + 5);
        due("no more things", x.count(0), 2);
        due("no things", new BorrowedWeight().sheet(2, 8, 5, 5), 0);
    }

    static void p09_putTo1To9() {
        sized(2, 0, 1);
        sized(2, 1, 1);
        sized(2, 9, 9);
        sized(2, 10, 9);
        sized(2, -1, 1);
        sized(2, MIN, 1);
        sized(2, MAX, 9);
    }

    static void p09_bytesWithTheirSign() {
        sized(0, 127, 9);
        sized(0, 128, 1);
        sized(0, 255, 1);
        sized(0, 256, 1);
        sized(0, 257 + 4, 5);
        sized(0, -256 + 6, 6);
        sized(0, -129, 9);
        sized(0, MAX, 1);
        sized(0, MIN + 7, 7);
    }

    static void p09_shortsWithTheirSign() {
        sized(1, 128, 9);
        sized(1, 261, 9);
        sized(1, 32767, 9);
        sized(1, 32768, 1);
        sized(1, 65535, 1);
        sized(1, 65536 + 5, 5);
        sized(1, -65536 + 6, 6);
        sized(1, -32769, 9);
        sized(1, MAX, 1);
        sized(1, MIN + 7, 7);
    }

    static void p09_intsAreWhole() {
        sized(2, 65536 + 5, 9);
        sized(2, 256 + 5, 9);
        sized(2, -65536 + 6, 1);
    }

    private static void sized(int kind, int f, int size) {
        BorrowedWeight x = with("5;5", "");
        due("kind " + kind + ", " + f, x.sheet(kind, 1, f, 0), size + 1);
        due("kind " + kind + ", " + f + ": size", x.thing(0, 0), size);
    }

    static void p09_entriesWrapAround() {
        BorrowedWeight x = with("5;5;5", "");
        due("ints", x.sheet(2, 3, MAX, 1), 9 + 1 + 1);
        due("ints, twice", x.sheet(2, 3, 5, MIN), 5 + 1 + 5);
        due("ints, down", x.sheet(2, 3, MIN, -1), 1 + 9 + 9);
        due("bytes", x.sheet(0, 3, 127, 1), 9 + 1 + 1);
        due("bytes, round", x.sheet(0, 3, 4, 128), 4 + 1 + 4);
        due("shorts", x.sheet(1, 3, 32767, 1), 9 + 1 + 1);
        due("shorts, round", x.sheet(1, 3, 4, 32768), 4 + 1 + 4);
    }

    static void p09_stepOf0AndBelow() {
        BorrowedWeight x = with("5;5;5", "");
        due("the same", x.sheet(2, 3, 6, 0), 18);
        due("down", x.sheet(2, 3, 6, -3), 6 + 3 + 1);
    }

    static void p09_itIsNotToBeUndone() {
        BorrowedWeight x = with("5;5", "");
        x.digs(1);
        due("sheet", x.sheet(2, 2, 7, 0), 14);
        due("one to undo", x.count(10), 1);
        x.undo();
        due("the size stays", x.thing(1, 0), 7);
    }

    static void p09_aGoneOneToo() {
        BorrowedWeight x = rich();
        due("all four", x.sheet(2, 4, 2, 1), 2 + 3 + 4 + 5);
        due("the gone one", x.thing(0, 0), 2);
    }
}
