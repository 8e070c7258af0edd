import java.util.function.ToIntFunction;

/**
 * Every short text of the signs that matter, and every text that is one sign away from a long one, given to each
 * call that reads THE TEXT, and held against the Model: so each place at which a sign can't stand is met.
 */
public final class ShortTextsTest {
    /** An object may be used for 512 calls: a text takes at most 22 of them, and what is compared 13. */
    private static final int TEXTS_OF_AN_OBJECT = 12;

    private final String call;
    private final String things;
    private final ToIntFunction<BorrowedWeight> ofClass;
    private final ToIntFunction<Model> ofModel;
    private BorrowedWeight x;
    private Model m;
    private int texts;

    private ShortTextsTest(String call, String things, ToIntFunction<BorrowedWeight> ofClass,
            ToIntFunction<Model> ofModel) {
        this.call = call;
        this.things = things;
        this.ofClass = ofClass;
        this.ofModel = ofModel;
        begin();
    }

    public static void main(String[] args) {
        for (String there : new String[] {"", "1;2;3;4;5;6", "1;2;3;4;5;6;7", "1;2;3;4;5;6;7;8"}) {
            new ShortTextsTest("things", there, BorrowedWeight::things, Model::things).all("019;", 5, "");
        }
        // the first of these is GONE
        new ShortTextsTest("strings", "9;1;1", BorrowedWeight::strings, Model::strings).all("0123;", 5, "");
        new ShortTextsTest("winds", "9", BorrowedWeight::winds, Model::winds).all("09x", 4, "");
        new ShortTextsTest("rule", "9;1", BorrowedWeight::rule, Model::rule).all("z1(=/-)", 5, "");
        new ShortTextsTest("law", "9;1", BorrowedWeight::law, Model::law).all("z12(<+*-)", 5, "");
        new ShortTextsTest("night", "9;1", BorrowedWeight::night, Model::night).all("nlgtp019", 4, "");
        new ShortTextsTest("serves", "9;1", BorrowedWeight::serves, Model::serves).all("0129;", 5, "");

        new ShortTextsTest("things", "", BorrowedWeight::things, Model::things).near("1;2;3;4;5;6;7;8;9");
        new ShortTextsTest("strings", "1;1;1;1", BorrowedWeight::strings, Model::strings)
                .near("01;02;03;12;13;23;01;02;03;12;13;23;01");
        new ShortTextsTest("winds", "1", BorrowedWeight::winds, Model::winds).near("0123456789012345678901");
        new ShortTextsTest("law", "1;9", BorrowedWeight::law, Model::law)
                .near("((((z+1)))*12)/-3<(k=9)+1+2+3+4+5+6+7+888");
        new ShortTextsTest("night", "1;9", BorrowedWeight::night, Model::night)
                .near("l01n1t01g01p0l01n1t01g01p0l01n1t01g01p0l01n1t01g01p0l01n1t01g01p0l01");
        new ShortTextsTest("serves", "1;9", BorrowedWeight::serves, Model::serves)
                .near("0192;1292;2392;3492;4592;5692;6792;7992;1111");
        Check.close("ShortTextsTest");
    }

    private void begin() {
        x = new BorrowedWeight();
        m = new Model();
        texts = 0;
        put(things);
        x.things();
        m.things();
        x.hours(10);
        m.hours(10);
    }

    private void put(String signs) {
        for (int at = 0; at < signs.length(); at += 4) {
            int v = 0;
            for (int i = at; i < at + 4; i++) {
                v = v << 8 | (i < signs.length() ? signs.charAt(i) & 255 : '1');
            }
            x.sign(v);
            m.sign(v);
        }
        x.end(signs.length());
        m.end(signs.length());
    }

    private void one(String signs) {
        if (texts == TEXTS_OF_AN_OBJECT) {
            begin();
        }
        texts++;
        put(signs);
        Check.due(call + " of " + signs, ofClass.applyAsInt(x), ofModel.applyAsInt(m));
        for (int what = 0; what <= 12; what++) {
            Check.due(call + " of " + signs + ": count(" + what + ")", x.count(what), m.count(what));
        }
    }

    private void all(String signs, int most, String sofar) {
        one(sofar);
        for (int i = 0; i < signs.length() && sofar.length() < most; i++) {
            all(signs, most, sofar + signs.charAt(i));
        }
    }

    private void near(String signs) {
        for (int at = 0; at <= signs.length(); at++) {
            one(signs.substring(0, at));
            for (char c = 0; c < 256; c++) {
                one(signs.substring(0, at) + c + signs.substring(at));
                if (at < signs.length()) {
                    one(signs.substring(0, at) + c + signs.substring(at + 1));
                }
            }
        }
    }
}
