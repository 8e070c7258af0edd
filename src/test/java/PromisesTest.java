/** One part for each promise of the document: ordinary inputs, named edges, wrong inputs. */
public final class PromisesTest {
    public static void main(String[] args) {
        newObject();
        sign();
        end();
        things();
        strings();
        winds();
        rule();
        ruleValues();
        thing();
        sheet();
        hours();
        lends();
        gives();
        ties();
        pays();
        digs();
        night();
        undo();
        floats();
        spare();
        height();
        gone();
        ahead();
        least();
        surplus();
        vital();
        tie();
        binds();
        way();
        serves();
        owes();
        seen();
        fits();
        looks();
        lifts();
        just();
        evens();
        order();
        storm();
        run();
        law();
        rests();
        years();
        keepAndAgain();
        count();
        row();
        Check.close("PromisesTest");
    }

    private static BorrowedWeight text(BorrowedWeight x, String signs) {
        return Check.text(x, signs);
    }

    private static void due(String what, long got, long want) {
        Check.due(what, got, want);
    }

    /** Three things that need 4, 1 and 1 stones and have one each: the first is GONE by now. */
    private static BorrowedWeight oneGone() {
        BorrowedWeight x = Check.with("9;2;3", "");
        x.lends(0, 1);
        x.lends(1, 1);
        x.lends(2, 1);
        x.hours(10);
        return x;
    }

    private static void newObject() {
        BorrowedWeight x = new BorrowedWeight();
        int[] first = {0, 0, 0, 30, 0, 0, 0, 0, 0, 0, 0, 0, 0};
        for (int what = 0; what < first.length; what++) {
            due("new: count(" + what + ")", x.count(what), first[what]);
        }
        Check.rowThrows("new", x, 0);
        Check.thingThrows(x, 0, 0);
        due("NONE", BorrowedWeight.NONE, -1);
    }

    private static void sign() {
        BorrowedWeight x = new BorrowedWeight();
        for (int i = 1; i <= 20; i++) {
            due("sign " + i, x.sign('9' << 24 | ';' << 16 | '9' << 8 | ';'), 4 * i);
        }
        due("sign beyond 80", x.sign(0), -1);
        due("80 signs", x.count(12), 80);
        x.end(79);
        due("sign from 79", x.sign(0), -1);
        x.end(77);
        due("sign from 77", x.sign(0), -1);
        x.end(76);
        due("sign from 76", x.sign(0), 80);
        x.end(3);
        due("highest byte first", x.things(), 2);
        due("size", x.thing(1, 0), 9);
        due("negative", x.sign(-1), 4);
        due("sign 255 can't stand", x.things(), -1);
    }

    private static void end() {
        BorrowedWeight x = new BorrowedWeight();
        Check.yes("end(0) of none", x.end(0));
        Check.no("end(1) of none", x.end(1));
        x.sign(0);
        Check.no("end(-1)", x.end(-1));
        Check.no("end(5)", x.end(5));
        due("as it was", x.count(12), 4);
        Check.yes("end(4)", x.end(4));
        Check.yes("end(2)", x.end(2));
        due("two left", x.count(12), 2);
        Check.no("end(3)", x.end(3));
    }

    private static void things() {
        BorrowedWeight x = new BorrowedWeight();
        due("empty", x.things(), 0);
        due("one", text(x, "7").things(), 1);
        due("text is emptied", x.count(12), 0);
        due("size", x.thing(0, 0), 7);
        due("zero", text(x, "1;0").things(), -3);
        due("text is emptied, too", x.count(12), 0);
        due("none came", x.count(0), 1);
        due("ends too early", text(x, "1;").things(), -3);
        due("no ;", text(x, "1;22").things(), -4);
        due("sign", text(x, ";").things(), -1);
        due("seven more", text(x, "1;2;3;4;5;6;7").things(), 7);
        due("in turn", x.thing(7, 0), 7);
        due("no room", text(x, "1").things(), -1);
        due("no room, 0", text(x, "0").things(), -1);
        due("empty when full", text(x, "").things(), 0);

        BorrowedWeight y = new BorrowedWeight();
        text(y, "1;2;3;4;5;6").things();
        due("no room in the third line", text(y, "1;2;3").things(), -5);
        due("no room, ends too early there", text(y, "1;2;").things(), -5);
        due("none came", y.count(0), 6);
        BorrowedWeight z = new BorrowedWeight();
        due("sixteenth sign ;", text(z, "1;2;3;4;5;6;7;8;").things(), -16);
        due("sixteenth sign x", text(z, "1;2;3;4;5;6;7;8x").things(), -16);
        due("longer", text(z, "1;2;3;4;5;6;7;8;9;1").things(), -16);
        due("an earlier one first", text(z, "1;2;3;4;x;6;7;8;9;1").things(), -9);
        due("fifteen", text(z, "1;2;3;4;5;6;7;8").things(), 8);
    }

    private static void strings() {
        BorrowedWeight x = Check.with("1;1;1;1", "");
        due("empty", x.strings(), 0);
        due("one", text(x, "10").strings(), 1);
        due("others only", text(x, "01;12;21;30").strings(), 2);
        due("text is emptied", x.count(12), 0);
        due("three", x.count(2), 3);
        due("not there", text(x, "04").strings(), -2);
        due("not there, first", text(x, "40").strings(), -1);
        due("like", text(x, "01;22").strings(), -5);
        due("none of it", text(x, "23;22").strings(), -5);
        due("still three", x.count(2), 3);
        due("no ;", text(x, "011").strings(), -3);
        due("ends", text(x, "0").strings(), -2);
        due("ends behind ;", text(x, "01;").strings(), -4);
        due("ends in a line", text(x, "01;1").strings(), -5);
        String twelve = "01;01;01;01;01;01;01;01;01;01;01;23";
        due("twelve lines", text(x, twelve).strings(), 1);
        due("36 signs", text(x, twelve + ";").strings(), -36);
        due("36 signs, another", text(x, twelve + "x").strings(), -36);
        due("thirteen lines", text(x, twelve + ";01").strings(), -36);
        BorrowedWeight g = oneGone();
        due("gone", g.thing(0, 4), 1);
        due("gone first", text(g, "01").strings(), -1);
        due("gone second", text(g, "12;10").strings(), -5);
        due("none of it came", g.count(2), 0);
    }

    private static void winds() {
        BorrowedWeight x = Check.with("9", "");
        due("none", text(x, "").winds(), -1);
        due("sign", text(x, "1a").winds(), -2);
        due("three", text(x, "369").winds(), 3);
        due("text is emptied", x.count(12), 0);
        due("first", x.count(7), 3);
        x.hours(1);
        due("second", x.count(7), 6);
        x.hours(2);
        due("round", x.count(7), 3);
        text(x, "4").winds();
        due("one alone", x.count(7), 4);
        text(x, "05").winds();
        x.hours(1);
        due("still air", x.count(7), 0);
        x.undo();
        text(x, "369").winds();
        due("need by wind", x.thing(0, 5), 4 + 1);
        due("refused", text(x, "5;").winds(), -2);
        due("as it was", x.count(7), 3);
        due("twenty", text(x, "01234567890123456789").winds(), 20);
        due("at hour 3", x.count(7), 3);
        due("twenty-one", text(x, "012345678901234567890").winds(), -21);
        due("twenty-one, sign", text(x, "01234567890123456789x").winds(), -21);
        due("earlier", text(x, "0123456789x1234567890").winds(), -11);
    }

    private static void rule() {
        BorrowedWeight x = Check.with("9", "");
        String[] good = {"z", "z+w*k-g/h<d+i*n", "1", "007", "999", "-z", "--z", "----------1", "z--w", "z*-w",
            "((((z))))", "(z<w)<(k>g)", "(z<w)=(z<w)", "z<(w<(k<(g<h)))", "-(z)", "(((z)+(w)))*3",
            "1+1+1+1+1+1+1+1+1+1+1+1+1+1+1+1+1+1+1+1"};
        for (String each : good) {
            due("rule " + each, text(x, each).rule(), 0);
        }
        due("text is emptied", x.count(12), 0);
        fault(x, "y", 0);
        fault(x, "z+", 2);
        fault(x, "zz", 1);
        fault(x, "z1", 1);
        fault(x, "1234", 3);
        fault(x, "12z", 2);
        fault(x, "()", 1);
        fault(x, ")", 0);
        fault(x, "z)", 1);
        fault(x, "(z", 2);
        fault(x, "(z))", 3);
        fault(x, "(z)1", 3);
        fault(x, "(z)(w)", 3);
        fault(x, "(((((z", 4);
        fault(x, "((((z))))+(((((z", 14);
        fault(x, "-", 1);
        fault(x, "+z", 0);
        fault(x, "z+*w", 2);
        fault(x, "z<w<k", 3);
        fault(x, "z=w>k", 3);
        fault(x, "z<w+(k)>g", 7);
        fault(x, "z<=w", 2);
        fault(x, "(z<w>k)", 4);
        fault(x, "z w", 1);
        fault(x, "z~w", 1);
        fault(x, "~z", 0);
        fault(x, "z<(w<k)<g", 7);
        fault(x, "(z<(w<k)+1)<(g>h)=1", 17);
        fault(x, "Z", 0);
        String forty = "1+1+1+1+1+1+1+1+1+1+1+1+1+1+1+1+1+1+1+22";
        due("forty", text(x, forty).rule(), 0);
        fault(x, forty + "2", 40);
        fault(x, forty + "x", 40);
        fault(x, forty + "+1", 40);
        fault(x, forty.substring(0, 38) + "+1", 38);
        fault(x, forty.substring(0, 38) + "1+", 40);
        fault(x, forty.substring(0, 39) + "xxx", 39);
        due("by the forty still", x.thing(0, 5), 9);
        due("none", text(x, "").rule(), 0);
        due("by none", x.thing(0, 5), 4);
    }

    private static void fault(BorrowedWeight x, String rule, int at) {
        due("rule " + rule, text(x, rule).rule(), -1 - at);
        due("text is emptied", x.count(12), 0);
    }

    private static void ruleValues() {
        BorrowedWeight x = Check.with("5;9;1", "01;12");
        text(x, "7").winds();
        x.lends(1, 4);
        x.hours(8);
        x.lends(0, 3);
        value(x, "z", 1, 9);
        value(x, "w", 1, 7);
        value(x, "k", 1, 2);
        value(x, "k", 0, 1);
        value(x, "g", 1, 4);
        value(x, "g", 0, 3);
        value(x, "h", 1, 8);
        value(x, "d-30", 1, 2);
        value(x, "i", 2, 2);
        value(x, "n", 0, 1);
        value(x, "1+2*3", 0, 7);
        value(x, "(1+2)*3", 0, 9);
        value(x, "9-4-3", 0, 2);
        value(x, "8/2/2", 0, 2);
        value(x, "9/2*2", 0, 8);
        value(x, "7/0+3", 0, 3);
        value(x, "-7/2+9", 0, 6);
        value(x, "9--1", 0, 9);
        value(x, "3--1", 0, 4);
        value(x, "3---1", 0, 2);
        value(x, "2*-1+5", 0, 3);
        value(x, "-1", 0, 0);
        value(x, "10", 0, 9);
        value(x, "1<2", 0, 1);
        value(x, "2<2", 0, 0);
        value(x, "2>1", 0, 1);
        value(x, "2=2", 0, 1);
        value(x, "2=1+1", 0, 1);
        value(x, "1+1>1", 0, 1);
        value(x, "(1<2)*5+(1>2)*3+(1=1)", 0, 6);
        value(x, "-(1=1)+3", 0, 2);
        value(x, "012", 0, 9);
        value(x, "65*65*65*65*65*65", 0, 0);
        value(x, "999*999*999*999/999", 0, 0);
        value(x, "999*999*999*999/-999/999/60", 0, 7);
    }

    private static void value(BorrowedWeight x, String rule, int thing, int need) {
        due("rule " + rule, text(x, rule).rule(), 0);
        due("need by " + rule + " of " + thing, x.thing(thing, 5), need);
    }

    private static void thing() {
        BorrowedWeight x = Check.with("4;6;8;2", "01;21");
        x.lends(1, 3);
        x.hours(2);
        int[][] want = {{4, 0, 2, 0, 0, 2, 2, 7}, {6, 3, 2, 6, 0, 3, 5, 7}, {8, 0, 2, 0, 0, 4, 2, 7},
            {2, 0, 2, 0, 0, 1, 0, 8}};
        for (int i = 0; i < 4; i++) {
            for (int what = 0; what < 8; what++) {
                due("thing(" + i + ", " + what + ")", x.thing(i, what), want[i][what]);
            }
        }
        Check.thingThrows(x, 4, 0);
        Check.thingThrows(x, -1, 0);
        Check.thingThrows(x, 0, 8);
        Check.thingThrows(x, 0, -1);
        Check.thingThrows(x, Integer.MAX_VALUE, Integer.MIN_VALUE);
        BorrowedWeight g = oneGone();
        int[] gone = {9, 0, 9, 9, 1, 0, 0, 0};
        for (int what = 0; what < 8; what++) {
            due("gone: " + what, g.thing(0, what), gone[what]);
        }
        Check.thingThrows(g, 0, 8);
    }

    private static void sheet() {
        BorrowedWeight x = Check.with("5;5;5", "");
        due("ints", x.sheet(2, 3, 2, 3), 2 + 5 + 8);
        due("first", x.thing(0, 0), 2);
        due("third", x.thing(2, 0), 8);
        due("one behind", x.sheet(2, 2, 7, 1), 7 + 8 + 1);
        due("one behind has 1", x.thing(2, 0), 1);
        due("more entries than things", x.sheet(2, 8, 3, 0), 9);
        due("put to 1 .. 9", x.sheet(2, 3, -5, 10), 1 + 5 + 9);
        due("bytes", x.sheet(0, 3, 250, 4), 1 + 1 + 2);
        due("bytes: 254, 258 are -2, 2", x.thing(2, 0), 2);
        due("bytes: 128 is below 0", x.sheet(0, 1, 128, 0), 3);
        due("bytes: 127", x.sheet(0, 1, 127, 0), 11);
        due("bytes: 256 + 6", x.sheet(0, 1, 262, 0), 8);
        due("shorts: 262", x.sheet(1, 1, 262, 0), 11);
        due("shorts: 65536 + 4", x.sheet(1, 1, 65540, 0), 6);
        due("shorts: 32768", x.sheet(1, 1, 32768, 0), 3);
        due("ints wrap", x.sheet(2, 2, Integer.MAX_VALUE, 5), 9 + 1 + 1);
        due("none", x.sheet(1, 0, 9, 9), 3);
        x.sheet(2, 3, 4, 0);
        due("n below 0", x.sheet(2, -1, 1, 1), -2);
        due("n far below 0", x.sheet(0, Integer.MIN_VALUE, 1, 1), -2);
        due("another kind", x.sheet(4, -1, 1, 1), -1);
        due("kind below 0", x.sheet(-1, 1, 1, 1), -1);
        due("n above 8", x.sheet(0, 9, 1, 1), -1);
        due("n above 8, missing", x.sheet(3, 9, 1, 1), -1);
        due("nothing changed", x.thing(0, 0) + x.thing(1, 0) + x.thing(2, 0), 12);
        due("missing, n below 0", x.sheet(3, -1, 5, 5), -3);
        due("all 1", x.thing(0, 0) + x.thing(1, 0) + x.thing(2, 0), 3);
        x.sheet(2, 3, 4, 0);
        due("missing, n 3", x.sheet(3, 3, 5, 5), -3);
        due("all 1 again", x.thing(0, 0) + x.thing(1, 0) + x.thing(2, 0), 3);
    }

    private static void hours() {
        BorrowedWeight x = Check.with("9;2;3", "");
        x.lends(0, 1);
        x.lends(1, 1);
        Check.row("hours(0)", x, x.hours(0), 7, 0, 0);
        due("one to undo more", x.count(10), 3);
        due("hours(-1)", x.hours(-1), -1);
        due("hours(61)", x.hours(61), -1);
        Check.row("hours(9)", x, x.hours(9), 7, 0, 0);
        due("height 9", x.thing(0, 2), 9);
        due("down stays 0", x.thing(1, 2), 0);
        due("debt", x.thing(0, 3), 9);
        Check.row("the tenth", x, x.hours(1), 2, 2, 1);
        due("debt as it was", x.thing(0, 3), 9);
        due("debt of the other", x.thing(1, 3), 10);
        due("lost", x.count(5), 1);
        due("height stays", x.thing(0, 2), 9);
        due("hour", x.count(6), 10);
        Check.row("hours(60)", x, x.hours(60), 2, 0, 0);
        due("debt goes on", x.thing(1, 3), 70);

        BorrowedWeight y = Check.with("9;9", "01");
        y.lends(0, 4);
        y.hours(3);
        due("both rise", y.thing(1, 2), 3);
        y.lends(1, 4);
        y.hours(2);
        due("both sink", y.thing(0, 2), 1);
        y.hours(5);
        due("0 at least", y.thing(0, 2), 0);

        BorrowedWeight d = Check.with("1", "");
        d.lends(0, 9);
        d.hours(60);
        d.hours(60);
        due("debt 999 at most", d.thing(0, 3), 999);

        BorrowedWeight s = Check.with("9;9;1", "02");
        s.hours(5);
        s.ties(0, 1);
        s.lends(2, 1);
        Check.row("a bundle goes whole", s, s.hours(5), 0, 3, 1);
        due("strings are cut", s.count(2), 0);
        BorrowedWeight c = Check.with("9;9;9", "");
        c.lends(0, 4);
        c.hours(5);
        text(c, "01;02;12").strings();
        Check.row("two of a bundle go, strings to the first are cut", c, c.hours(5), 1, 2, 0);
        due("no strings", c.count(2), 0);
        due("tied to none", c.thing(0, 6), 0);
        due("down alone", c.floats(), 0);
    }

    private static void lends() {
        BorrowedWeight x = Check.with("9;9;9;9", "");
        due("lends", x.lends(0, 4), 4);
        due("more", x.lends(0, 5), 9);
        due("stock", x.count(3), 21);
        due("above 9", x.lends(0, 1), -4);
        due("n 0", x.lends(1, 0), -1);
        due("n 10", x.lends(1, 10), -1);
        due("none such", x.lends(4, 1), -1);
        due("below 0", x.lends(-1, 1), -1);
        x.lends(1, 9);
        x.lends(2, 9);
        due("stock 3", x.count(3), 3);
        due("not so many", x.lends(3, 4), -3);
        due("not so many, and above 9", x.lends(0, 4), -3);
        due("the last", x.lends(3, 3), 3);
        due("none left", x.lends(3, 1), -3);
        BorrowedWeight g = oneGone();
        due("gone", g.lends(0, 1), -2);
        due("gone, another n", g.lends(0, 10), -1);
    }

    private static void gives() {
        BorrowedWeight x = Check.with("9;9", "");
        x.lends(0, 5);
        due("gives", x.gives(0, 2), 27);
        due("left", x.thing(0, 1), 3);
        due("not so many", x.gives(0, 4), -2);
        due("all", x.gives(0, 3), 30);
        due("none left", x.gives(0, 1), -2);
        x.undo();
        due("none", x.gives(1, 1), -2);
        due("n 0", x.gives(0, 0), -1);
        due("n 10", x.gives(0, 10), -1);
        due("none such", x.gives(2, 1), -1);
        x.digs(71);
        due("to 99", x.gives(0, 1), 99);
        due("above 99", x.gives(0, 1), -3);
        due("not so many first", x.gives(0, 9), -2);
        due("gone", oneGone().gives(0, 1), -2);
    }

    private static void ties() {
        BorrowedWeight x = Check.with("9;9;9", "");
        due("tied", x.ties(0, 2), 1);
        due("tied", x.ties(2, 1), 2);
        due("cut", x.ties(2, 0), 1);
        due("like", x.ties(1, 1), -1);
        due("none such", x.ties(1, 3), -1);
        due("below 0", x.ties(-1, 1), -1);
        BorrowedWeight g = oneGone();
        due("gone", g.ties(0, 1), -2);
        due("gone other", g.ties(1, 0), -2);
        due("gone, like", g.ties(0, 0), -1);
    }

    private static void pays() {
        BorrowedWeight x = Check.with("9;1", "");
        due("none", x.pays(0), -2);
        x.lends(0, 9);
        x.hours(60);
        due("pays", x.pays(0), 540);
        due("taken", x.count(4), 540);
        due("none now", x.pays(0), -2);
        due("none such", x.pays(2), -1);
        due("below 0", x.pays(-1), -1);
        for (int i = 0; i < 9; i++) {
            x.hours(60);
            x.hours(60);
            due("pays 999", x.pays(0), 999);
        }
        due("taken", x.count(4), 9531);
        x.hours(60);
        x.pays(0);
        due("9999 at most", x.count(4), 9999);
        due("gone pays", oneGone().pays(0), 9);
    }

    private static void digs() {
        BorrowedWeight x = new BorrowedWeight();
        due("digs", x.digs(1), 31);
        due("n 0", x.digs(0), -1);
        due("n 100", x.digs(100), -1);
        due("n below 0", x.digs(-5), -1);
        due("above 99", x.digs(69), -3);
        due("n 99", x.digs(99), -3);
        due("to 99", x.digs(68), 99);
        due("no more", x.digs(1), -3);
    }

    private static void night() {
        BorrowedWeight x = Check.with("9;2;3", "");
        int undone = x.count(10);
        Check.row("empty", x, text(x, "").night(), 0, 0, 30);
        due("nothing to undo", x.count(10), undone);
        Check.row("all", x, text(x, "l05t01n3g02p0t12").night(), 6, 0, 27);
        due("as one", x.count(10), undone + 1);
        due("debt paid", x.count(4), 15);
        due("strings", x.count(2), 2);
        due("stones", x.thing(0, 1), 3);
        due("hour", x.count(6), 3);
        due("text is emptied", x.count(12), 0);
        Check.row("one is refused", x, text(x, "l11l19l12").night(), 1, 1, 26);
        due("the first was done", x.thing(1, 1), 1);
        due("one to undo", x.undo(), undone + 1);
        due("undone", x.thing(1, 1), 0);
        Check.row("the first is refused", x, text(x, "p0n1").night(), 0, 1, 27);
        due("nothing to undo", x.count(10), undone + 1);
        Check.row("none such", x, text(x, "n0l91").night(), 1, 1, 27);
        Check.row("like ones", x, text(x, "t00").night(), 0, 1, 27);
        nightFault(x, "x", 0);
        nightFault(x, "n", 1);
        nightFault(x, "nx", 1);
        nightFault(x, "l", 1);
        nightFault(x, "l1", 2);
        nightFault(x, "l10", 2);
        nightFault(x, "g00", 2);
        nightFault(x, "lx1", 1);
        nightFault(x, "t0", 2);
        nightFault(x, "t0;", 2);
        nightFault(x, "p", 1);
        nightFault(x, "pp", 1);
        nightFault(x, "l01p", 4);
        nightFault(x, "n1;n1", 2);
        nightFault(x, "d1", 0);
        String thirty = "n0n0n0n0n0n0n0n0n0n0n0n0n0n0n0n0n0n0n0n0n0n0n0n0n0n0n0n0n0n0";
        Check.row("sixty signs", x, text(x, thirty).night(), 30, 0, 27);
        nightFault(x, thirty + "n", 60);
        nightFault(x, thirty + "x", 60);
        nightFault(x, thirty.substring(2) + "t01", 60);
        nightFault(x, thirty.substring(2) + "t0", 60);
        nightFault(x, thirty.substring(2) + "nxn0", 59);
    }

    private static void nightFault(BorrowedWeight x, String signs, int at) {
        int hour = x.count(6);
        int stock = x.count(3);
        int undone = x.count(10);
        x.digs(1);
        x.undo();
        x.least(0);
        due("night " + signs, text(x, signs).night(), -1 - at);
        due("text is emptied", x.count(12), 0);
        due("nothing is done", x.count(6) * 1000 + x.count(3), hour * 1000 + stock);
        due("nothing to undo", x.count(10), undone);
        due("the ROW stays", x.count(11), 2);
        due("the ROW stays as least(0) told it", x.row(1), 0);
    }

    private static void undo() {
        BorrowedWeight x = Check.with("9;2;3", "");
        due("none", x.undo(), -1);
        text(x, "01;12").strings();
        x.lends(0, 3);
        x.gives(0, 1);
        x.hours(3);
        x.pays(0);
        x.digs(7);
        x.ties(0, 1);
        text(x, "l11n9n9").night();
        due("eight", x.count(10), 8);
        due("all are gone", x.count(1), 0);
        due("night", x.undo(), 7);
        due("none is gone", x.count(1), 7);
        due("lost", x.count(5), 0);
        due("hour", x.count(6), 3);
        due("strings", x.count(2), 1);
        due("ties", x.undo(), 6);
        due("strings", x.count(2), 2);
        due("digs", x.undo(), 5);
        due("stock", x.count(3), 28);
        due("pays", x.undo(), 4);
        due("debt", x.thing(0, 3), 6);
        due("taken", x.count(4), 0);
        due("hours", x.undo(), 3);
        due("height", x.thing(0, 2), 0);
        due("debt", x.thing(0, 3), 0);
        due("gives", x.undo(), 2);
        due("stones", x.thing(0, 1), 3);
        due("lends", x.undo(), 1);
        due("strings", x.undo(), 0);
        due("no strings", x.count(2), 0);
        due("none", x.undo(), -1);

        x.ties(0, 1);
        x.ties(0, 1);
        due("a string that is cut, too", x.count(10), 2);
        due("tied again", x.undo(), 1);
        due("a string", x.count(2), 1);
        text(x, "12").strings();
        x.undo();
        due("a string as ahead of it", x.count(2), 1);
        x.lends(0, 1);
        x.hours(1);
        x.undo();
        due("a stone as ahead of the hour", x.thing(0, 1), 1);
        text(x, "12").strings();
        text(x, "02").strings();
        x.undo();
        due("a string of two as ahead of it", x.count(2), 2);
        due("a stone as ahead of the string", x.thing(0, 1), 1);
        x.undo();
        x.undo();
        x.undo();

        x.lends(0, 10);
        x.hours(61);
        x.pays(0);
        x.digs(99);
        text(x, "").strings();
        text(x, "00").strings();
        due("refused ones are not kept", x.count(10), 0);
        text(x, "01").strings();
        text(x, "01").strings();
        due("strings() that tied none is not kept", x.count(10), 1);

        for (int i = 0; i < 20; i++) {
            x.digs(1);
        }
        due("fifteen", x.count(10), 15);
        for (int i = 14; i >= 0; i--) {
            due("undo", x.undo(), i);
        }
        due("no more", x.undo(), -1);
        due("five stay", x.count(3), 35);

        x.sheet(2, 1, 5, 0);
        text(x, "9").winds();
        text(x, "z").rule();
        x.digs(1);
        x.sheet(2, 1, 8, 0);
        text(x, "8").winds();
        text(x, "k").rule();
        x.undo();
        due("size stays", x.thing(0, 0), 8);
        due("wind stays", x.count(7), 8);
        due("rule stays", x.thing(0, 5), 1);

        x.digs(1);
        text(x, "").things();
        due("empty things() forgets nothing", x.count(10), 1);
        text(x, "0").things();
        due("refused things() forgets nothing", x.count(10), 1);
        text(x, "1").things();
        due("things() forgets them", x.count(10), 0);
        x.keep(0);
        x.digs(1);
        x.again(1);
        due("refused again() forgets nothing", x.count(10), 1);
        x.again(0);
        due("again() forgets them", x.count(10), 0);
        due("none", x.undo(), -1);
    }

    private static void floats() {
        BorrowedWeight x = Check.with("9;2;3;4", "01");
        Check.row("all", x, x.floats(), 15, 3, 3);
        x.lends(2, 1);
        Check.row("one is down", x, x.floats(), 11, 3, 2);
        x.lends(1, 5);
        Check.row("two are down", x, x.floats(), 8, 3, 1);
        x.gives(1, 1);
        Check.row("one less than needed", x, x.floats(), 11, 3, 2);
        BorrowedWeight g = oneGone();
        Check.row("gone ones are in none", g, g.floats(), 0, 2, 0);
    }

    private static void spare() {
        BorrowedWeight x = Check.with("9;2;3;4", "01");
        x.lends(1, 7);
        Check.row("above", x, x.spare(0), 1002, 7, 5);
        Check.row("below", x, x.spare(3), 998, 0, 2);
        due("none such", x.spare(4), -1);
        due("below 0", x.spare(-1), -1);
        due("the ROW stays", x.row(1), 2);
        due("gone", oneGone().spare(0), -2);
    }

    private static void height() {
        BorrowedWeight x = Check.with("9;2", "");
        x.lends(0, 3);
        Check.row("now", x, x.height(0, 0), 0, 0, 0);
        Check.row("in 4", x, x.height(0, 4), 4, 0, 12);
        Check.row("in 9", x, x.height(0, 9), 9, 0, 27);
        Check.row("in 10", x, x.height(0, 10), 9, 1, 27);
        Check.row("in 99", x, x.height(0, 99), 9, 1, 27);
        due("n 100", x.height(0, 100), -1);
        due("n -1", x.height(0, -1), -1);
        due("none such", x.height(2, 1), -1);
        due("nothing changes", x.count(6) + x.thing(0, 2), 0);
        BorrowedWeight g = oneGone();
        Check.row("gone", g, g.height(0, 0), 9, 1, 9);
    }

    private static void gone() {
        BorrowedWeight x = Check.with("9;2;3", "");
        x.lends(2, 1);
        x.hours(2);
        Check.row("in 8", x, x.gone(0), 8, 1);
        due("never", x.gone(2), -2);
        due("the ROW stays", x.count(11), 1);
        due("none such", x.gone(3), -1);
        due("below 0", x.gone(-1), -1);
        text(x, "9").rule();
        Check.row("all go", x, x.gone(1), 8, 1);
        Check.row("all go, the third later", x, x.gone(2), 10, 2);
        BorrowedWeight g = oneGone();
        Check.row("it is", g, g.gone(0), 0, 0);
        BorrowedWeight late = Check.with("1", "");
        text(late, "(d>88)*9").rule();
        late.lends(0, 1);
        Check.row("in 99", late, late.gone(0), 99, 0);
        text(late, "(d>89)*9").rule();
        due("in 100", late.gone(0), -2);
    }

    private static void ahead() {
        BorrowedWeight x = Check.with("9;2;3", "");
        x.lends(0, 3);
        x.lends(1, 2);
        Check.row("in 9", x, x.ahead(9), 5, 3, 2, 0);
        Check.row("in 10", x, x.ahead(10), 2, 0, 2, 0);
        Check.row("in 99", x, x.ahead(99), 2, 0, 2, 0);
        due("n 100", x.ahead(100), -1);
        due("n -1", x.ahead(-1), -1);
    }

    private static void least() {
        BorrowedWeight x = Check.with("9;2;3;8", "01");
        x.lends(1, 2);
        x.lends(3, 9);
        Check.row("a bundle", x, x.least(2), 3, 1, 3);
        Check.row("both of it", x, x.least(3), 3, 1, 3);
        Check.row("all", x, x.least(15), 4, 2, 7);
        Check.row("down", x, x.least(8), 0, 0, 0);
        Check.row("none", x, x.least(0), 0, 0, 0);
        due("none such", x.least(16), -1);
        due("below 0", x.least(-1), -1);
        BorrowedWeight g = oneGone();
        due("gone", g.least(1), -2);
        due("gone, none such", g.least(9), -1);
        Check.row("not gone", g, g.least(6), 0, 0, 0);
    }

    private static void surplus() {
        BorrowedWeight x = Check.with("9;2;3;8;9", "03");
        x.lends(0, 3);
        x.lends(3, 9);
        x.lends(1, 1);
        x.lends(2, 5);
        x.lends(4, 3);
        Check.row("surplus", x, x.surplus(), 4 + 4, 3, 0, 4, 1, 0);
        BorrowedWeight g = oneGone();
        g.lends(1, 2);
        Check.row("gone gives none", g, g.surplus(), 2, 0, 2, 0);
    }

    private static void vital() {
        BorrowedWeight x = Check.with("9;2;3;8", "02;03;23");
        Check.row("all float", x, x.vital(), 0, 3);
        x.lends(3, 9);
        Check.row("a ring", x, x.vital(), 0, 3);
        x.ties(2, 0);
        Check.row("two", x, x.vital(), 2, 2, 0, 3);
        x.lends(0, 4);
        Check.row("one", x, x.vital(), 1, 2, 2, 3);
        text(x, "k*4").rule();
        Check.row("by the need then", x, x.vital(), 0, 2);
        text(x, "4-k").rule();
        x.gives(0, 1);
        Check.row("by the need then, more", x, x.vital(), 2, 2, 0, 3);
    }

    private static void tie() {
        BorrowedWeight x = Check.with("9;2;3;8", "");
        x.lends(3, 8);
        Check.row("the best", x, x.tie(), 2, 0, 3, 3);
        x.lends(0, 3);
        Check.row("of as good ones the least", x, x.tie(), 2, 0, 3, 3);
        x.lends(0, 1);
        Check.row("two left", x, x.tie(), 1, 1, 3, 2);
        due("one alone", Check.with("9", "").tie(), -2);
        due("all tied", Check.with("9;9;9", "01;12;02").tie(), -2);
        BorrowedWeight g = oneGone();
        Check.row("gone ones are not tied", g, g.tie(), 0, 1, 2, 0);
        g.ties(1, 2);
        due("none can be", g.tie(), -2);
        due("the ROW stays", g.row(1), 2);
        BorrowedWeight k = Check.with("1;1;1", "");
        text(k, "k").rule();
        k.lends(1, 1);
        k.lends(2, 1);
        Check.row("need as it would be", k, k.tie(), 0, 1, 2, 0);
    }

    private static void binds() {
        BorrowedWeight x = Check.with("9;2;3;8;1;1", "");
        x.lends(3, 9);
        due("need 4, 1, 1, 4, 0, 0", x.thing(0, 5) * 1000 + x.thing(3, 5) * 100 + x.thing(4, 5), 4400);
        due("stones are not enough", x.binds(), -2);
        x.lends(4, 1);
        Check.row("all in one", x, x.binds(), 3, 3);
        x.lends(5, 4);
        Check.row("the most bundles", x, x.binds(), 3, 3);
        BorrowedWeight two = Check.with("9;9;8;8", "");
        two.lends(0, 8);
        two.lends(2, 8);
        Check.row("two pairs", two, two.binds(), 2, 2);
        two.ties(0, 2);
        Check.row("what is tied stays so", two, two.binds(), 2, 1);
        BorrowedWeight g = oneGone();
        Check.row("gone ones are left out", g, g.binds(), 0, 2);
    }

    private static void way() {
        BorrowedWeight x = Check.with("1;1;1;1;1;1;1;1", "05;57;04;47;13;71;26");
        Check.row("least row", x, x.way(0, 7), 2, 0, 4, 7);
        Check.row("back", x, x.way(7, 0), 2, 7, 4, 0);
        Check.row("far", x, x.way(3, 5), 3, 3, 1, 7, 5);
        Check.row("like", x, x.way(6, 6), 0, 6);
        due("no way", x.way(0, 6), -2);
        due("the ROW stays", x.row(0), 6);
        due("none such", x.way(0, 8), -1);
        due("none such", x.way(-1, 0), -1);
        BorrowedWeight g = oneGone();
        due("gone", g.way(0, 1), -2);
        due("gone to", g.way(1, 0), -2);
        due("gone, like", g.way(0, 0), -2);
    }

    private static void serves() {
        BorrowedWeight x = new BorrowedWeight();
        Check.row("one", x, text(x, "0393").serves(), 3, 1);
        due("text is emptied", x.count(12), 0);
        Check.row("no price", x, text(x, "0390").serves(), 0, 0);
        Check.row("all are served", x, text(x, "0391;0392;0393").serves(), 6, 7);
        Check.row("four are too many", x, text(x, "0391;0392;0393;3994").serves(), 9, 14);
        Check.row("one behind another", x, text(x, "0391;0392;0393;4994").serves(), 10, 15);
        Check.row("fewest", x, text(x, "0090;0094;0095;0095;0099").serves(), 19, 4 + 8 + 16);
        Check.row("least bits", x, text(x, "0095;0095;0095;0095").serves(), 15, 7);
        Check.row("fewest, then least", x, text(x, "0091;0091;0092;0092;0094;0094").serves(), 10, 4 + 16 + 32);
        Check.row("eight", x, text(x, "0011;0011;0011;0011;0011;0011;0011;0011").serves(), 8, 255);
        serveFault(x, "", 0);
        serveFault(x, "x", 0);
        serveFault(x, "0", 1);
        serveFault(x, "21", 1);
        serveFault(x, "2201", 2);
        serveFault(x, "221", 3);
        serveFault(x, "221;", 3);
        serveFault(x, "22111", 4);
        serveFault(x, "2211;", 5);
        serveFault(x, "2211;3", 6);
        String eight = "0011;0011;0011;0011;0011;0011;0011;0011";
        serveFault(x, eight + ";", 40);
        serveFault(x, eight + ";1", 40);
        serveFault(x, eight + ";0011", 40);
        serveFault(x, eight + "x", 39);
        BorrowedWeight y = Check.with("9;9;9;9", "");
        y.lends(0, 9);
        y.lends(1, 9);
        y.lends(2, 9);
        Check.row("stock now", y, text(y, "0014;0037;1133").serves(), 10, 6);
        Check.row("stock is just enough", y, text(y, "0014;0023").serves(), 7, 3);
    }

    private static void serveFault(BorrowedWeight x, String signs, int at) {
        x.just(0);
        due("serves " + signs, text(x, signs).serves(), -1 - at);
        due("text is emptied", x.count(12), 0);
        due("the ROW stays", x.count(11), 2);
    }

    private static void owes() {
        BorrowedWeight x = Check.with("9;2;3", "");
        Check.row("of equal ones the first", x, x.owes(5), 0, 0, 0);
        x.lends(0, 3);
        x.lends(1, 2);
        Check.row("in 10", x, x.owes(10), 0, 27, 47);
        Check.row("equal", x, x.owes(0), 0, 0, 0);
        Check.row("in 14", x, x.owes(14), 1, 28, 55);
        due("n 100", x.owes(100), -1);
        due("n -1", x.owes(-1), -1);
        due("no things", new BorrowedWeight().owes(99), -2);
        due("no things, another n", new BorrowedWeight().owes(-1), -1);
    }

    private static void seen() {
        BorrowedWeight x = Check.with("9;2;3", "");
        due("one", x.seen(0, 0, 1), 1);
        due("two", x.seen(2, 20, 0), 2);
        due("none such", x.seen(3, 0, 0), -1);
        due("below 0", x.seen(-1, 0, 0), -1);
        due("hours 21", x.seen(0, 21, 0), -1);
        due("hours -1", x.seen(0, -1, 0), -1);
        due("is 2", x.seen(0, 0, 2), -1);
        due("is -1", x.seen(0, 0, -1), -1);
        due("count", x.count(9), 2);
        for (int i = 3; i <= 10; i++) {
            due("more", x.seen(1, i, 1), i);
        }
        due("eleven", x.seen(1, 1, 1), -1);
        due("forget", x.forget(), 10);
        due("forgotten", x.forget(), 0);
        due("count", x.count(9), 0);
        due("again", x.seen(1, 1, 1), 1);
        BorrowedWeight g = oneGone();
        due("of a gone one", g.seen(0, 0, 1), 1);
    }

    private static void fits() {
        BorrowedWeight x = Check.with("9;2;3;4", "01");
        Check.row("nothing was seen", x, x.fits(), 15, 4, 1);
        x.lends(0, 4);
        x.seen(0, 0, 0);
        Check.row("down by one more", x, x.fits(), 3, 2, 0);
        x.seen(2, 3, 0);
        Check.row("two can't be", x, x.fits(), 0, 0, 0);
        x.forget();
        x.seen(2, 3, 1);
        Check.row("all but one", x, x.fits(), 11, 3, 1);
        x.lends(3, 1);
        x.seen(3, 0, 0);
        Check.row("the last alone", x, x.fits(), 8, 1, 0);
        x.undo();
        x.forget();
        x.seen(0, 10, 0);
        Check.row("gone is not floating", x, x.fits(), 15, 4, 1);
        x.forget();
        x.seen(0, 9, 0);
        Check.row("not gone yet", x, x.fits(), 3, 2, 0);
        BorrowedWeight g = oneGone();
        Check.row("none gone", g, g.fits(), 6, 2, 1);
        g.seen(0, 0, 1);
        Check.row("gone does not float", g, g.fits(), 0, 0, 0);
        BorrowedWeight ten = Check.with("9;9", "");
        text(ten, "9+(g=10)*0").rule();
        ten.lends(0, 9);
        text(ten, "z*(g<10)").rule();
        ten.seen(1, 0, 1);
        Check.row("ten", ten, ten.fits(), 3, 2, 1);
        text(ten, "(i=0)*5+(g=10)").rule();
        due("nothing changes", ten.thing(0, 1), 9);
    }

    private static void looks() {
        BorrowedWeight x = Check.with("2;2;2;2", "");
        Check.row("one of four", x, x.looks(), 0, 3);
        x.ties(1, 2);
        text(x, "(i=1)").rule();
        Check.row("a bundle", x, x.looks(), 21, 2);
        x.seen(1, 0, 0);
        Check.row("all are alike", x, x.looks(), 0, 2);
        x.seen(0, 0, 1);
        due("none fits", x.looks(), -2);
        due("the ROW stays", x.count(11), 1);
        due("no things", new BorrowedWeight().looks(), -2);
        BorrowedWeight y = Check.with("1;1", "");
        text(y, "(d>7)*9").rule();
        y.lends(0, 1);
        Check.row("at an hour", y, y.looks(), 4, 1);
        text(y, "(d>38)*9").rule();
        Check.row("at the last hour", y, y.looks(), 20, 1);
        y.seen(0, 20, 1);
        Check.row("seen in the last hour", y, y.fits(), 1, 1, 0);
    }

    private static void lifts() {
        BorrowedWeight x = Check.with("1;1;1;1", "");
        x.lends(0, 2);
        x.lends(1, 5);
        x.lends(2, 5);
        x.lends(3, 7);
        Check.row("one", x, x.lifts(1), 1, 1);
        Check.row("one, 5", x, x.lifts(5), 1, 2);
        Check.row("two, least", x, x.lifts(9), 2, 6);
        Check.row("two", x, x.lifts(11), 2, 10);
        Check.row("all", x, x.lifts(19), 4, 15);
        due("too many", x.lifts(20), -2);
        due("72", x.lifts(72), -2);
        due("73", x.lifts(73), -1);
        due("0", x.lifts(0), -1);
        due("the ROW stays", x.row(0), 15);
    }

    private static void just() {
        BorrowedWeight x = Check.with("1;1;1;1;1", "");
        x.lends(0, 2);
        x.lends(1, 5);
        x.lends(2, 5);
        x.lends(3, 7);
        Check.row("seven", x, x.just(7), 1, 8, 6);
        Check.row("none", x, x.just(0), 0, 0, 2);
        Check.row("twelve", x, x.just(12), 2, 10, 2 * 3);
        due("none has 3", x.just(3), -2);
        due("72", x.just(72), -2);
        due("73", x.just(73), -1);
        due("-1", x.just(-1), -1);
        due("the ROW stays", x.row(1), 6);
    }

    private static void evens() {
        BorrowedWeight x = Check.with("1;1;1;1;1", "");
        Check.row("no stones", x, x.evens(), 0, 0, 0);
        x.lends(0, 2);
        x.lends(1, 5);
        x.lends(2, 5);
        x.lends(3, 7);
        Check.row("apart by 1", x, x.evens(), 1, 6, 10);
        x.lends(4, 1);
        Check.row("even", x, x.evens(), 0, 6, 10);
    }

    private static void order() {
        BorrowedWeight x = Check.with("9;2;3;4", "");
        x.lends(1, 1);
        x.lends(3, 5);
        Check.row("order", x, x.order(), 4, 3, 1, 2, 0);
        x.lends(2, 1);
        x.lends(0, 4);
        Check.row("like ones", x, x.order(), 4, 3, 0, 1, 2);
        BorrowedWeight g = oneGone();
        Check.row("gone ones not", g, g.order(), 2, 1, 2);
    }

    private static void storm() {
        BorrowedWeight x = Check.with("2;2;2;2", "01;12");
        x.lends(2, 3);
        Check.row("chain", x, x.storm(0, 5), 0, 1, 4);
        Check.row("middle", x, x.storm(1, 5), 0, 1, 2);
        Check.row("with stones", x, x.storm(2, 5), 0, 1, 1);
        Check.row("without", x, x.storm(3, 5), 0, 0, 1);
        Check.row("3 tenths", x, x.storm(0, 3), 0, 49, 100);
        Check.row("none breaks", x, x.storm(0, 0), 0, 1, 1);
        Check.row("all break", x, x.storm(0, 10), 0, 0, 1);
        due("p 11", x.storm(0, 11), -1);
        due("p -1", x.storm(0, -1), -1);
        due("none such", x.storm(4, 5), -1);
        x.ties(0, 2);
        Check.row("ring", x, x.storm(0, 5), 0, 5, 8);
        due("gone", oneGone().storm(0, 5), -2);
        due("gone, p 11", oneGone().storm(0, 11), -1);
        BorrowedWeight y = Check.with("2;1;1;1;1;1;1;1", "01;02;03;04;05;06;07;12;13;14;15;16");
        y.lends(7, 1);
        Check.row("twelve", y, y.storm(0, 1), 0, 9, 10);
        y.ties(1, 7);
        due("thirteen", y.storm(0, 1), -2);
        BorrowedWeight last = Check.with("2;1;1;1;1;1;1;1", "01;02;03;04;05;06;12;13;14;15;23;67");
        last.lends(7, 1);
        Check.row("twelve, by the last one", last, last.storm(0, 1), 0, 81, 100);
        BorrowedWeight n = Check.with("1;1;1", "01;12");
        text(n, "k").rule();
        n.lends(0, 2);
        n.lends(1, 2);
        Check.row("need as it is now", n, n.storm(2, 5), 0, 1, 4);
    }

    private static void run() {
        BorrowedWeight x = new BorrowedWeight();
        Check.row("0 0", x, x.run(0, 0), 0);
        Check.row("0 1", x, x.run(0, 1), 1, 0, 1);
        Check.row("0 2", x, x.run(0, 2), 1, 0, 2);
        Check.row("0 3", x, x.run(0, 3), 0);
        Check.row("2 0", x, x.run(2, 0), 1, 2, 0);
        Check.row("1 2", x, x.run(1, 2), 0);
        Check.row("2 2", x, x.run(2, 2), 1, 0, 1);
        Check.row("1 3", x, x.run(1, 3), 1, 0, 1);
        due("a 21", x.run(21, 0), -1);
        due("b 21", x.run(0, 21), -1);
        due("a -1", x.run(-1, 0), -1);
        due("b -1", x.run(0, -1), -1);
        due("the ROW stays", x.count(11), 2);
        due("20 20 is told", x.run(20, 20) >= 0 ? 1 : 0, 1);
    }

    private static void law() {
        BorrowedWeight x = Check.with("9;2;3", "01");
        x.lends(1, 3);
        Check.row("another", x, text(x, "z/3").law(), -2, 1, 3, 3, 0, 1);
        due("text is emptied", x.count(12), 0);
        due("the rule stays", x.thing(0, 5), 4);
        Check.row("more", x, text(x, "9").law(), 0, 3, 3, 9, 9, 9);
        text(x, "0").rule();
        Check.row("none", x, text(x, "").law(), 3, 3, 0, 4, 1, 1);
        due("the rule stays", x.thing(0, 5), 0);
        due("sign", text(x, "y").law(), -10000);
        due("text is emptied", x.count(12), 0);
        due("end", text(x, "z*(").law(), -10003);
        due("forty", text(x, "1+1+1+1+1+1+1+1+1+1+1+1+1+1+1+1+1+1+1+22z").law(), -10040);
        due("the ROW stays", x.count(11), 5);
        due("the rule stays behind a fault", x.thing(0, 5), 0);
        BorrowedWeight g = oneGone();
        Check.row("gone needs none", g, text(g, "5").law(), 2, 2, 0, 0, 5, 5);
    }

    private static void rests() {
        BorrowedWeight x = new BorrowedWeight();
        Check.row("v 0", x, x.rests(0), 12, 0, 0);
        due("v 21", x.rests(21), -1);
        due("v -1", x.rests(-1), -1);
        due("the ROW stays", x.count(11), 2);
        // who has 20 at every price would rather have it: only the highest offers of both are at rest
        Check.row("v 20", x, x.rests(20), 1, 9, 9);
    }

    private static void years() {
        BorrowedWeight x = new BorrowedWeight();
        due("n 0", x.years(1, 0), -1);
        due("n 61", x.years(1, 61), -1);
        Check.row("no things", x, x.years(1, 60), 0, 30, 0);
        due("nothing changes", x.count(6), 0);
        BorrowedWeight y = Check.with("9;2;3", "01");
        for (int seed = -3; seed < 4; seed++) {
            BorrowedWeight z = Check.with("9;2;3", "01");
            int lost = drawYears(z, seed, 60);
            Check.row("years of " + seed, y, y.years(seed, 60), z.count(1), z.count(3), lost);
        }
        due("nothing to undo more", y.count(10), 1);
        due("no hour", y.count(6), 0);
    }

    /** Years by the calls of the face. */
    private static int drawYears(BorrowedWeight x, int seed, int n) {
        int r = seed;
        int lost = x.count(5);
        for (int i = 0; i < n; i++) {
            r = r * 1103515245 + 12345;
            int kind = (r >>> 16) % 4;
            if (kind < 2) {
                x.hours(1);
                continue;
            }
            r = r * 1103515245 + 12345;
            int thing = (r >>> 16) % 3;
            r = r * 1103515245 + 12345;
            if (kind == 2) {
                x.lends(thing, (r >>> 16) % 3 + 1);
            } else {
                x.ties(thing, (r >>> 16) % 3);
            }
        }
        return x.count(5) - lost;
    }

    private static void keepAndAgain() {
        BorrowedWeight x = Check.with("9;2;3", "01");
        Check.no("nothing kept", x.again(0));
        Check.no("keep(3)", x.keep(3));
        Check.no("keep(-1)", x.keep(-1));
        Check.yes("keep(0)", x.keep(0));
        text(x, "l05n9n9p0t12").night();
        Check.yes("keep(2)", x.keep(2));
        x.digs(1);
        Check.no("again(1)", x.again(1));
        Check.no("again(3)", x.again(3));
        Check.no("again(-1)", x.again(-1));
        due("nothing changed", x.count(10), 3);
        Check.yes("again(0)", x.again(0));
        due("as it was", x.count(3) * 100 + x.count(2) * 10 + x.count(6), 3010);
        due("taken", x.count(4), 0);
        due("nothing to undo", x.count(10), 0);
        x.hours(60);
        Check.yes("again(2)", x.again(2));
        due("debt was paid", x.count(4), 18 * 5);
        due("stock", x.count(3), 25);
        Check.yes("again(0) again", x.again(0));
        due("stock", x.count(3), 30);
        x.sheet(2, 3, 7, 0);
        Check.yes("sizes stay", x.again(2));
        due("size", x.thing(1, 0), 7);
        text(x, "").things();
        Check.yes("an empty things() brings none", x.again(0));
        text(x, "1").things();
        Check.no("things came", x.again(0));
        Check.no("things came, too", x.again(2));
        Check.yes("keep(0) anew", x.keep(0));
        Check.yes("again(0) anew", x.again(0));
    }

    private static void count() {
        BorrowedWeight x = Check.with("9;2;3", "12;02");
        text(x, "123").winds();
        x.lends(0, 3);
        x.lends(1, 2);
        x.hours(10);
        x.pays(1);
        x.seen(0, 1, 1);
        x.least(0);
        x.sign(1);
        // need 4, 1, 1 and a third of each wind: six in all at winds below 3, nine at 3
        int[] want = {3, 0, 0, 25, 18, 5, 10, 2, 0, 1, 5, 2, 4};
        for (int what = 0; what < want.length; what++) {
            due("count(" + what + ")", x.count(what), want[what]);
        }
        due("count(13)", x.count(13), -100);
        due("count(-1)", x.count(-1), -100);
    }

    private static void row() {
        BorrowedWeight x = Check.with("1;1", "");
        Check.rowThrows("none told", x, 0);
        x.ahead(0);
        Check.rowThrows("two told", x, 2);
        Check.rowThrows("far", x, Integer.MAX_VALUE);
        Check.rowThrows("far below", x, Integer.MIN_VALUE);
        x.hours(-1);
        due("a refused call tells none", x.count(11), 2);
        x.lends(0, 1);
        due("a call without a ROW tells none", x.count(11), 2);
        x.run(0, 0);
        due("an empty ROW", x.count(11), 0);
    }
}
