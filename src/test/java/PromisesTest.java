import java.nio.charset.StandardCharsets;

/** For each promise of the document: ordinary inputs, the edges that it names, and wrong inputs. */
public final class PromisesTest {
    private static final int NO = -1000000000;
    private static final int NONE = SinkingChoir.NONE;
    private static int wrong = 0;
    private static int promise = 0;

    private static void due(String call, long got, long want) {
        if (got != want) {
            wrong++;
            System.out.println("promise " + promise + ": " + call + " answered " + got + ", due is " + want);
        }
    }

    private static void yes(String call, boolean got) {
        due(call, got ? 1 : 0, 1);
    }

    private static void no(String call, boolean got) {
        due(call, got ? 1 : 0, 0);
    }

    /** Empties the tape, feeds these bytes (blanks behind them) and reads them as a text. */
    private static int tell(SinkingChoir x, String text) {
        x.check(0);
        byte[] bytes = text.getBytes(StandardCharsets.ISO_8859_1);
        for (int from = 0; from < bytes.length; from += 20) {
            int[] five = new int[5];
            for (int k = 0; k < 20; k++) {
                int b = from + k < bytes.length ? bytes[from + k] & 255 : ' ';
                five[k / 4] |= b << 24 - 8 * (k % 4);
            }
            x.feed(five[0], five[1], five[2], five[3], five[4]);
        }
        return x.text(bytes.length);
    }

    /** The pitch that a singer comes to who has nothing but this d (its table is 0 at KEY 0). */
    private static int d(SinkingChoir x, String value, String when, int beat) {
        if (tell(x, "d" + value + "(" + when + ")") != 1) {
            return 1000000;
        }
        return x.pitch(0, beat);
    }

    private static int d(SinkingChoir x, String value) {
        return d(x, value, "1=1", 0);
    }

    private static boolean holds(SinkingChoir x, String when) {
        return d(x, "1", when, 0) == 1;
    }

    /** A comma pump of three voices: keynote falls by 21506 if all is pure. */
    private static SinkingChoir pump() {
        SinkingChoir x = new SinkingChoir();
        x.note(1, 0, 24, 1, 1);
        x.note(1, 1, 24, 1, 1);
        x.note(2, 1, 33, 5, 3);
        x.note(2, 2, 33, 5, 3);
        x.note(3, 2, 26, 10, 9);
        x.note(3, 3, 26, 9, 8);
        x.note(4, 3, 31, 3, 2);
        x.note(4, 4, 31, 3, 2);
        return x;
    }

    /** One singer with one note of KEY 0 in BEAT 0. */
    private static SinkingChoir lone() {
        SinkingChoir x = new SinkingChoir();
        x.note(0, 0, 0, 1, 1);
        x.singer(0, 0, 7, 0);
        return x;
    }

    /** Two singers who hold a fifth over three beats; the second hears the first and follows. */
    private static SinkingChoir duet() {
        SinkingChoir x = new SinkingChoir();
        for (int b = 0; b < 3; b++) {
            x.note(0, b, 12, 1, 1);
            x.note(1, b, 19, 3, 2);
        }
        x.singer(0, 4, 2, 0);
        x.singer(1, 5, 3, 1);
        return x;
    }

    private static void promise1() {
        SinkingChoir x = new SinkingChoir();
        due("NONE", NONE, -1);
        for (int what : new int[] {0, 1, 2, 3, 4, 6, 7}) {
            due("count(" + what + ")", x.count(what), 0);
        }
        due("count(5)", x.count(5), 1);
        due("count(10)", x.count(10), NONE);
        for (int b = 0; b < 24; b++) {
            due("keynote(0)", x.keynote(b, 0), 0);
            due("keynote(4)", x.keynote(b, 4), NONE);
            due("beat(2)", x.beat(b, 2), 0);
        }
    }

    private static void promise2() {
        SinkingChoir x = new SinkingChoir();
        yes("least", x.note(0, 0, 0, 1, 1));
        yes("most", x.note(5, 23, 60, 2000, 1024));
        yes("widest", x.note(5, 22, 60, 4, 1));
        no("voice -1", x.note(-1, 0, 0, 1, 1));
        no("voice 6", x.note(6, 0, 0, 1, 1));
        no("beat -1", x.note(0, -1, 0, 1, 1));
        no("beat 24", x.note(0, 24, 0, 1, 1));
        no("key -1", x.note(0, 0, -1, 1, 1));
        no("key 61", x.note(0, 0, 61, 1, 1));
        no("n 0", x.note(0, 0, 0, 0, 1));
        no("d 0", x.note(0, 0, 0, 1, 0));
        no("prime 7", x.note(0, 0, 0, 7, 4));
        no("too wide", x.note(0, 0, 0, 6, 1));
        no("least int", x.note(Integer.MIN_VALUE, Integer.MIN_VALUE, Integer.MIN_VALUE, Integer.MIN_VALUE, Integer.MIN_VALUE));
        due("count(3)", x.count(3), 3);
        yes("again", x.note(0, 0, 7, 3, 2));
        due("count(3) again", x.count(3), 3);
        SinkingChoir y = pump();
        y.link(3, 3);
        yes("other fraction", y.note(3, 3, 26, 5, 4));
        due("link stays", y.keynote(3, 4), 3);
        due("keynote goes along", y.keynote(3, 0), 182404 - 386314);
        yes("other key", y.note(3, 3, 27, 9, 8));
        due("link falls", y.keynote(3, 4), NONE);
        due("keynote again", y.keynote(3, 0), 0);
        y.link(4, 4);
        y.note(4, 3, 30, 3, 2);
        due("link of the next beat falls", y.keynote(4, 4), NONE);
        y.note(4, 3, 31, 3, 2);
        due("and does not come again", y.keynote(4, 4), NONE);
        y.link(4, 4);
        y.note(5, 4, 31, 3, 2);
        due("that of another voice stays", y.keynote(4, 4), 4);
    }

    private static void promise3() {
        SinkingChoir x = pump();
        x.link(1, 1);
        x.link(2, 2);
        x.link(4, 4);
        yes("silent", x.silent(1, 0));
        no("it is", x.silent(1, 0));
        due("link falls", x.keynote(1, 4), NONE);
        yes("silent", x.silent(4, 4));
        due("link falls, too", x.keynote(4, 4), NONE);
        due("another stays", x.count(4), 1);
        due("count(3)", x.count(3), 6);
        no("voice -1", x.silent(-1, 0));
        no("voice 6", x.silent(6, 0));
        no("beat -1", x.silent(0, -1));
        no("beat 24", x.silent(0, 24));
    }

    private static void promise4() {
        SinkingChoir x = lone();
        no("none yet", x.breath(0, 0, false));
        yes("breath", x.breath(0, 0, true));
        no("it is so", x.breath(0, 0, true));
        due("r", d(x, "r"), 1);
        yes("not any more", x.breath(0, 0, false));
        due("r", d(x, "r"), 0);
        yes("last", x.breath(5, 23, true));
        no("voice 6", x.breath(6, 0, true));
        no("voice -1", x.breath(-1, 0, true));
        no("beat 24", x.breath(0, 24, true));
        no("beat -1", x.breath(0, -1, true));
    }

    private static void promise5() {
        SinkingChoir x = new SinkingChoir();
        due("1/1", x.size(1, 1), 0);
        due("2/1", x.size(2, 1), 1200000);
        due("3/1", x.size(3, 1), 1901955);
        due("5/1", x.size(5, 1), 2786314);
        due("1/3", x.size(1, 3), -1901955);
        due("81/80", x.size(81, 80), 21506);
        due("2000/1024", x.size(2000, 1024), 4 * 1200000 + 3 * 2786314 - 12000000);
        due("1999", x.size(1999, 1), NO);
        due("2025", x.size(2025, 2000), NO);
        due("2025", x.size(2000, 2025), NO);
        due("14/10", x.size(14, 10), NO);
        due("6", x.size(6, 1), NO);
        due("1/6", x.size(1, 6), NO);
        due("27/5", x.size(27, 5), 3 * 1901955 - 2786314);
        due("0", x.size(0, 1), NO);
        due("0", x.size(1, 0), NO);
        due("-3/2", x.size(-3, 2), NO);
        due("-3/-2", x.size(-3, -2), NO);
    }

    private static void promise6() {
        SinkingChoir x = pump();
        yes("held", x.link(3, 3));
        due("count(4)", x.count(4), 1);
        no("not held", x.link(3, 4));
        due("as before", x.keynote(3, 4), 3);
        no("no such voice", x.link(3, 6));
        no("no such voice", x.link(3, -2));
        yes("none", x.link(3, NONE));
        yes("none again", x.link(3, NONE));
        due("count(4)", x.count(4), 0);
        no("the first", x.link(0, NONE));
        no("beat 24", x.link(24, NONE));
        no("beat -1", x.link(-1, NONE));
        yes("the last", x.link(23, NONE));
    }

    private static void promise7() {
        SinkingChoir x = pump();
        x.note(5, 3, 40, 5, 4);
        x.note(5, 4, 40, 6, 5);
        due("held", x.keynote(4, 5), 1 << 4 | 1 << 5);
        due("torn", x.keynote(4, 6), 1 << 5);
        x.link(3, 3);
        x.link(4, 5);
        due("mills", x.keynote(4, 0), -21506 + 386314 - 315641);
        due("of 2", x.keynote(4, 1), 4 - 3);
        due("of 3", x.keynote(4, 2), -4 - 1);
        due("of 5", x.keynote(4, 3), 1 + 2);
        due("link", x.keynote(4, 4), 5);
        due("torn", x.keynote(4, 6), 1 << 4);
        due("afterwards", x.keynote(23, 0), x.keynote(4, 0));
        due("held in 0", x.keynote(0, 5), 0);
        due("what -1", x.keynote(0, -1), NO);
        due("what 7", x.keynote(0, 7), NO);
        due("beat 24", x.keynote(24, 0), NO);
        due("beat -1", x.keynote(-1, 0), NO);
    }

    private static void promise8() {
        SinkingChoir x = pump();
        due("torn", x.torn(3, 3), 21506);
        x.note(3, 3, 26, 10, 9);
        x.note(3, 2, 26, 9, 8);
        due("below 0", x.torn(3, 3), -21506);
        due("not", x.torn(1, 1), 0);
        due("not held", x.torn(2, 1), NO);
        due("silent", x.torn(0, 0), NO);
        due("beat 0", x.torn(1, 0), NO);
        due("voice 6", x.torn(6, 1), NO);
        due("voice -1", x.torn(-1, 1), NO);
        due("beat 24", x.torn(1, 24), NO);
        due("beat -1", x.torn(1, -1), NO);
    }

    private static void promise9() {
        SinkingChoir x = new SinkingChoir();
        for (int what = -1; what < 7; what++) {
            due("no note", x.sink(what), NO);
        }
        x = pump();
        due("foulness", x.sink(4), 21506);
        x.link(3, 3);
        due("mills", x.sink(0), -21506);
        due("of 2", x.sink(1), 4);
        due("of 3", x.sink(2), -4);
        due("of 5", x.sink(3), 1);
        due("foulness", x.sink(4), 0);
        due("beat", x.sink(5), 4);
        due("what -1", x.sink(-1), NO);
        due("what 6", x.sink(6), NO);
        x.note(0, 23, 0, 1, 1);
        due("beat", x.sink(5), 23);
        SinkingChoir y = new SinkingChoir();
        y.note(3, 0, 9, 3, 2);
        due("the first beat", y.sink(5), 0);
        y.note(3, 1, 9, 1, 1);
        y.note(5, 0, 9, 1, 1);
        y.note(5, 1, 9, 1, 1);
        due("foulness of the second beat", y.sink(4), 701955);
        y.link(1, 3);
        due("all others are torn", y.sink(4), 701955);
        due("of 3", y.sink(2), 1);
    }

    /** One voice, 300 keynotes in BEAT 20: of three directions 3, 10 and 10. */
    private static SinkingChoir wide() {
        SinkingChoir x = new SinkingChoir();
        x.note(0, 0, 5, 1, 1);
        x.note(0, 1, 5, 2, 1);
        x.note(0, 2, 5, 1, 1);
        for (int b = 3; b <= 11; b++) {
            x.note(0, b, 5, b % 2 == 1 ? 3 : 1, b % 2 == 1 ? 2 : 1);
        }
        for (int b = 12; b <= 20; b++) {
            x.note(0, b, 5, b % 2 == 0 ? 15 : 3, b % 2 == 0 ? 8 : 2);
        }
        return x;
    }

    private static void promise10() {
        SinkingChoir x = new SinkingChoir();
        due("no note", x.way(NONE), NO);
        x = pump();
        x.link(3, 3);
        due("foulness", x.way(NONE), 21506);
        due("link", x.way(3), NONE);
        due("beyond", x.way(23), NONE);
        due("beat 0", x.way(0), NO);
        due("what 24", x.way(24), NO);
        due("what -2", x.way(-2), NO);
        x.note(5, 3, 40, 27, 20);
        x.note(5, 4, 40, 4, 3);
        x.note(0, 3, 26, 1, 1);
        x.note(0, 4, 26, 1, 1);
        due("either voices 3 and 5 are torn, or voices 0 and 4", x.way(NONE), 2 * 21506);
        due("least row", x.way(3), NONE);
        due("least row", x.way(4), NONE);
        SinkingChoir y = wide();
        due("300 keynotes", y.way(NONE), 701955 + 386314);
        due("both octaves", y.way(1), 0);
        due("the first that must be left out", y.way(3), NONE);
        due("no other", y.way(5), 0);
        due("the first that must be left out", y.way(12), NONE);
        due("no other", y.way(20), 0);
        y.note(0, 21, 5, 15, 8);
        due("a still one more", y.way(NONE), 701955 + 386314);
        y.note(0, 22, 5, 3, 2);
        due("more than 300", y.way(NONE), -2);
        due("more than 300", y.way(1), -2);
        due("no such what", y.way(0), NO);
    }

    private static void promise11() {
        SinkingChoir x = new SinkingChoir();
        due("no note", x.change(NONE), NO);
        x = pump();
        due("as told", x.change(NONE), 0);
        x.link(1, 1);
        x.link(3, 3);
        due("one", x.change(NONE), 1);
        due("keeps", x.change(1), 1);
        due("leaves out", x.change(3), NONE);
        due("beat 0", x.change(0), NO);
        due("what 24", x.change(24), NO);
        x.note(5, 3, 40, 27, 20);
        x.note(5, 4, 40, 4, 3);
        due("one of two", x.change(NONE), 1);
        due("least row", x.change(3), NONE);
        due("least row", x.change(4), NONE);
        x.link(4, 5);
        due("none", x.change(NONE), 0);
        due("told", x.change(4), 5);
        SinkingChoir y = wide();
        due("300 keynotes", y.change(NONE), 0);
        y.note(0, 21, 5, 3, 2);
        due("more than 300", y.change(NONE), -2);
    }

    private static void promise12() {
        SinkingChoir x = new SinkingChoir();
        due("no note", x.bounded(0), NO);
        x = pump();
        due("pure", x.bounded(0), -21506);
        due("not enough", x.bounded(21505), -21506);
        due("enough", x.bounded(21506), 0);
        due("most", x.bounded(100000000), 0);
        due("too much", x.bounded(100000001), NO);
        due("below 0", x.bounded(-1), NO);
        SinkingChoir z = new SinkingChoir();
        z.note(0, 0, 5, 9, 8);
        z.note(0, 1, 5, 1, 1);
        z.note(1, 1, 7, 1, 1);
        z.note(1, 2, 7, 81, 64);
        z.note(2, 1, 9, 1, 1);
        z.note(2, 2, 9, 1, 1);
        due("none is there", z.bounded(407819), NO);
        due("of two that beneath 0", z.bounded(407820), -203910);
        due("not yet", z.bounded(611729), -203910);
        due("nearest", z.bounded(611730), 0);
        SinkingChoir y = wide();
        due("300 keynotes", y.bounded(100000000), 0);
        y.note(0, 21, 5, 3, 2);
        due("more than 300", y.bounded(100000000), NO);
    }

    private static void promise13() {
        SinkingChoir x = new SinkingChoir();
        due("voice 6", x.singer(6, 0, 1, 0), NONE);
        due("voice -1", x.singer(-1, 0, 1, 0), NONE);
        due("place 16", x.singer(0, 16, 1, 0), NONE);
        due("place -1", x.singer(0, -1, 1, 0), NONE);
        due("loud 0", x.singer(0, 0, 0, 0), NONE);
        due("loud 10", x.singer(0, 0, 10, 0), NONE);
        due("knows 2", x.singer(0, 0, 1, 2), NONE);
        due("knows -1", x.singer(0, 0, 1, -1), NONE);
        due("count(0)", x.count(0), 0);
        for (int i = 0; i < 8; i++) {
            due("singer", x.singer(5, 15, i % 2 == 0 ? 1 : 9, i % 2), i);
        }
        due("a ninth", x.singer(0, 0, 1, 0), NONE);
        due("count(0)", x.count(0), 8);
    }

    private static void promise14() {
        SinkingChoir x = duet();
        due("hears", x.hears(0, 1), 21);
        yes("place", x.place(1, 4));
        due("hears", x.hears(0, 1), 24);
        due("two at one", x.count(10), x.count(11));
        yes("least", x.place(0, 0));
        yes("most", x.place(0, 15));
        no("place 16", x.place(0, 16));
        no("place -1", x.place(0, -1));
        no("singer 2", x.place(2, 0));
        no("singer -1", x.place(-1, 0));
        due("count(10)", x.count(10), 15);
    }

    private static void promise15() {
        SinkingChoir x = duet();
        yes("table", x.table(7, 60000));
        yes("table", x.table(0, -60000));
        due("pitch", x.pitch(1, 0), 1960000);
        due("pitch", x.pitch(0, 0), 1140000);
        no("key 12", x.table(12, 0));
        no("key -1", x.table(-1, 0));
        no("mills", x.table(0, 60001));
        no("mills", x.table(0, -60001));
        due("pitch", x.pitch(0, 0), 1140000);
    }

    private static void promise16() {
        SinkingChoir x = lone();
        due("of 1", d(x, "x"), (25173 + 13849) % 100);
        yes("seed 0", x.seed(0));
        due("of 0", x.pitch(0, 0), 13849 % 100);
        yes("seed 65535", x.seed(65535));
        due("of 65535", x.pitch(0, 0), (int) ((25173L * 65535 + 13849) % 65536 % 100));
        no("seed 65536", x.seed(65536));
        no("seed -1", x.seed(-1));
        due("count(5)", x.count(5), 65535);
    }

    private static void promise17() {
        SinkingChoir x = lone();
        yes("blown", x.blown(200000));
        due("pitch", x.pitch(0, 0), 200000);
        yes("blown", x.blown(-200000));
        due("pitch", x.pitch(0, 0), -200000);
        no("too much", x.blown(200001));
        no("too little", x.blown(-200001));
        due("count(6)", x.count(6), -200000);
    }

    private static void promise18() {
        SinkingChoir x = duet();
        x.blown(700);
        yes("ahead of 1", x.given(2));
        due("before", x.pitch(0, 0), 1200700);
        due("from there on", x.pitch(0, 1), 1200000);
        due("from there on", x.pitch(0, 2), 1200000);
        tell(x, "s1(1=1);d300(1=1)");
        yes("none", x.given(0));
        due("rises", x.pitch(0, 2), 1200700 + 900);
        yes("ahead of 2", x.given(4));
        due("is given again", x.pitch(0, 2), 1200000 + 300);
        yes("ahead of 0", x.given(1));
        due("nothing is blown then", x.pitch(0, 0), 1200300);
        yes("all", x.given(16777215));
        no("beat 24", x.given(16777216));
        no("below 0", x.given(-1));
        due("count(7)", x.count(7), 24);
    }

    private static void promise19() {
        SinkingChoir x = new SinkingChoir();
        for (int k = 1; k <= 11; k++) {
            due("feed", x.feed(0, -1, Integer.MIN_VALUE, 5, 6), 20 * k);
        }
        due("more than 220", x.feed(0, 0, 0, 0, 0), NONE);
        due("count(1)", x.count(1), 220);
        SinkingChoir y = lone();
        y.feed('d' << 24 | '1' << 16 | '2' << 8 | '3', '(' << 24 | '1' << 16 | '=' << 8 | '1', ')' << 24, 0, 0);
        due("highest first", y.text(9), 1);
        due("pitch", y.pitch(0, 0), 123);
    }

    private static void promise20() {
        SinkingChoir x = lone();
        due("one clause", tell(x, "d5(b=0)"), 1);
        due("emptied", x.count(1), 0);
        due("fault", tell(x, "d7(b=0"), -1006);
        due("emptied by a fault", x.count(1), 0);
        due("the text before stays", x.pitch(0, 0), 5);
        due("clauses stay", x.count(2), 1);
        x.feed(0, 0, 0, 0, 0);
        due("n 0", x.text(0), NONE);
        due("n -1", x.text(-1), NONE);
        due("n 21", x.text(21), NONE);
        due("the tape stays", x.count(1), 20);
        for (int k = 0; k < 10; k++) {
            x.feed(0, 0, 0, 0, 0);
        }
        due("n 201", x.text(201), NONE);
        due("n 200", x.text(200), -1000);
        faults(x);
        grammar(x);
    }

    private static void faults(SinkingChoir x) {
        String[] texts = {"", "d", "d1", "d1(", "d1()", "d1(1", "d1(1=", "d1(1=1", "d1(1=1);", "d1(1=1);e", "d1(1=1)d",
            "d-1(1=1)", "d1(1=1=1)", "d1((1)=1)", "d1(1=1&)", "d1(1=1|)", "d1(!)", "d1(1=1))", "d[1(1=1)", "d[](1=1)",
            "d1 (1=1)", "d1(1==1)", "d1(1<>1)", "d1(1&1)", "dd(1=1)", "d1(m=1)", "d1(B=1)", "d1((1=1)!1=1)", "d12x(1=1)",
            "d\u00e91(1=1)", "d1(([1=1]))", "d1(1=1|&1=1)"};
        int[] places = {-1, 1, 2, 3, 3, 4, 5, 6, 8, 8, 7, 1, 6, 5, 7, 7, 4, 7, 3, 2, 2, 5, 5, 4, 1, 3, 3, 8, 3, 1, 6, 7};
        for (int k = 1; k < texts.length; k++) {
            due(texts[k], tell(x, texts[k]), -1000 - places[k]);
        }
        due("a sixth digit", tell(x, "d123456(1=1)"), -2006);
        due("a sixth digit of noughts", tell(x, "d1(000000=0)"), -2008);
        due("five digits", tell(x, "d99999(00001=1)"), 1);
        String fourteen = "d1(1=1);".repeat(13) + "d1(1=1)";
        due("14 clauses", tell(x, fourteen), 14);
        due("a 15th", tell(x, fourteen + ";p"), -4112);
        due("none that can stand there", tell(x, fourteen + ";q"), -1112);
        due("the end", tell(x, fourteen + ";"), -1112);
        due("six [", tell(x, "d[[[[[[1]]]]]](1=1)"), 1);
        due("seven [", tell(x, "d[[[[[[[1]]]]]]](1=1)"), -5007);
        due("six (", tell(x, "d1((((((1=1))))))"), 1);
        due("seven (", tell(x, "d1(((((((1=1)))))))"), -5008);
        due("five !", tell(x, "d1(!!!!!1=1)"), 1);
        due("six !", tell(x, "d1(!!!!!!1=1)"), -5008);
        due("[ in five !", tell(x, "d1(!!!!![1]=1)"), -5008);
        due("a ! ends with its piece", tell(x, "d1(!!!!!1=1&!!!!!1=1|!!!!!1=1)"), 1);
        due("five [ in a (", tell(x, "d1([[[[[1]]]]]=1)"), 1);
        due("six [ in a (", tell(x, "d1([[[[[[1]]]]]]=1)"), -5008);
        due("on both sides", tell(x, "d1([[[[[1]]]]]=[[[[[1]]]]])"), 1);
        due("a ( where none can stand", tell(x, "d1(!!!!!1(=1)"), -1009);
    }

    private static void grammar(SinkingChoir x) {
        due("product first", d(x, "2+3*4-1"), 13);
        due("from the left on", d(x, "20-5-4"), 11);
        due("from the left on", d(x, "100/7*7%10"), 8);
        due("brackets", d(x, "[2+3]*4"), 20);
        due("below 0", d(x, "[0-7]/2"), -3);
        due("rest below 0", d(x, "[0-7]%4"), -3);
        due("32 bits", d(x, "99999*99999"), (int) (99999L * 99999) < 0 ? -20000 : 20000);
        due("32 bits", d(x, "65536*65536*x+[65535*65536+65535+1]"), 0);
        due("refused", d(x, "5+1/[b-b]"), 0);
        due("refused", d(x, "5+1%b"), 0);
        due("refused deeper", d(x, "5+[1/b]"), 0);
        due("the bound of d", d(x, "20001"), 20000);
        due("the bound of d", d(x, "0-20001"), -20000);
        yes("or", holds(x, "1=2|1=1"));
        no("and", holds(x, "1=2&1=1"));
        yes("and first", holds(x, "1=1|1=1&1=2"));
        no("brackets first", holds(x, "(1=1|1=1)&1=2"));
        yes("not", holds(x, "!1=2"));
        no("not of its piece alone", holds(x, "!1=2&1=2"));
        yes("not of brackets", holds(x, "!(1=2&1=1)"));
        yes("not not", holds(x, "!!1=1"));
        no("not less", holds(x, "!1<2"));
        yes("not not less", holds(x, "!!1<2"));
        no("not more", holds(x, "!2>1"));
        yes("less", holds(x, "1<2"));
        no("less", holds(x, "2<2"));
        yes("more", holds(x, "2>1"));
        no("more", holds(x, "2>2"));
        no("refused", holds(x, "1/b=0"));
        no("refused, not", holds(x, "!(1/b=0)"));
        no("refused, then or", holds(x, "1/b=0|1=1"));
        yes("not asked for", holds(x, "1=1|1/b=0"));
        no("not asked for", holds(x, "1=2&1/b=0"));
        yes("not asked for, then or", holds(x, "1=2&1/b=0|1=1"));
        tell(x, "d1(1=2);d2(1/b=1);d3(1=1);d4(1=1)");
        due("the first that holds", x.pitch(0, 0), 3);
        tell(x, "d1/b(1=1);d4(1=1)");
        due("refused, yet the first", x.pitch(0, 0), 0);
        letters();
    }

    private static void letters() {
        SinkingChoir x = new SinkingChoir();
        x.note(2, 3, 0, 1, 1);
        x.note(2, 5, 0, 3, 2);
        x.note(2, 6, 0, 3, 2);
        x.note(2, 9, 12, 2, 1);
        x.note(4, 6, 0, 1, 1);
        x.singer(2, 0, 7, 1);
        x.singer(4, 0, 2, 0);
        x.singer(4, 0, 2, 0);
        due("b", d(x, "b", "1=1", 6), 6);
        due("v", d(x, "v", "1=1", 6), 2);
        due("k", d(x, "k", "1=1", 6), 1);
        due("f", d(x, "f", "1=1", 6), 7);
        due("h", d(x, "h", "1=1", 6), 1);
        due("h, a beat between", d(x, "h", "1=1", 5), 0);
        due("j, none before", d(x, "j", "1=1", 3), 0);
        due("j, up", d(x, "j", "1=1", 9) - 1200000, 12);
        due("u, up", d(x, "u", "1=1", 9) - 1200000, 1);
        due("u, not", d(x, "u", "1=1", 6), 0);
        x.note(2, 11, 5, 2, 1);
        due("j, down", d(x, "j", "1=1", 11) - 500000, 7);
        due("u, down", d(x, "u", "1=1", 11) - 500000, 0);
        due("n", d(x, "n", "1=1", 6), 3);
        due("n", d(x, "n", "1=1", 5), 1);
        tell(x, "d[0-1500](b=3);d1500(b=5);d100*o(1=1)");
        due("o, above", x.pitch(0, 6), -200);
        tell(x, "d[0-1500](b=3);d100*o(1=1)");
        due("o, beneath", x.pitch(0, 5), 100);
        tell(x, "d100*o+1(1=1)");
        due("o, none before", x.pitch(0, 3), 1);
        tell(x, "d10*i+1(1=1)");
        due("i", x.pitch(2, 6), 21);
        tell(x, "dx(1=1)");
        long luck = 1;
        for (int k = 0; k < 5; k++) {
            luck = (25173 * luck + 13849) % 65536;
        }
        due("x, of the fifth note", x.pitch(2, 6), luck % 100);
    }

    private static void promise21() {
        SinkingChoir x = duet();
        x.table(0, 10);
        due("by the table", x.pitch(0, 0), 1200010);
        tell(x, "p2(1=1);t1(1=1)");
        due("nobody is heard", x.pitch(0, 0), 1200010);
        due("p and t, rounded down", x.pitch(1, 0), Math.floorDiv(2 * (1200010L + 701955) + 1900000, 3L));
        tell(x, "k3(1=1);d5(1=1)");
        due("does not know", x.pitch(0, 0), 1200015);
        x.blown(100);
        due("knows", x.pitch(1, 0), 1900005);
        tell(x, "s1(1=1)");
        due("no last one", x.pitch(1, 0), 1900100);
        x.note(1, 1, 19, 40, 27);
        due("held", x.pitch(1, 1), 1900100);
        x.note(1, 2, 18, 45, 32);
        due("a step", x.pitch(1, 2), 1900100 + x.size(45, 32) - x.size(40, 27));
        x.silent(1, 1);
        due("over a silent beat", x.pitch(1, 2), 1900100 + x.size(45, 32) - x.size(3, 2));
        due("silent", x.pitch(1, 1), NO);
        tell(x, "p1000(1=1);t0-5(1=1)");
        due("bounds of weights", x.pitch(1, 0), 1200110 + 701955);
        x.place(1, 12);
        due("too far to hear", x.pitch(1, 0), 1900100);
        three();
        due("singer 2", x.pitch(2, 0), NO);
        due("singer -1", x.pitch(-1, 0), NO);
        due("beat 24", x.pitch(0, 24), NO);
        due("beat -1", x.pitch(0, -1), NO);
    }

    /** The third hears the second by 8 times 3, the first by 7 times 2; none hears one who sings later. */
    private static void three() {
        SinkingChoir x = duet();
        x.singer(0, 5, 1, 0);
        tell(x, "p1(i=2);d100(i=1)");
        due("by how they are heard", x.pitch(2, 0), Math.floorDiv(1200000L * 14 + (1900100L - 701955) * 24, 38L));
        tell(x, "p1(i=0);d100(i=1)");
        due("who sings later is not heard", x.pitch(0, 0), 1200000);
    }

    private static void promise22() {
        SinkingChoir x = duet();
        x.note(2, 0, 16, 5, 4);
        due("off", x.beat(0, 0), 0);
        due("foul", x.beat(0, 1), 1955);
        due("how many", x.beat(0, 2), 2);
        due("the table's", x.beat(0, 3), 1955 + Math.abs(400000 - 386314) + Math.abs(300000 - 315641));
        tell(x, "d0-1(i=0)");
        due("off, rounded down", x.beat(0, 0), -1);
        due("foul", x.beat(0, 1), 1954);
        due("nobody", x.beat(3, 0), NO);
        due("nobody", x.beat(3, 1), 0);
        due("nobody", x.beat(3, 2), 0);
        due("nobody", x.beat(3, 3), 0);
        x.singer(1, 0, 1, 0);
        due("two of a voice", x.beat(0, 1), 2 * 1954);
        due("each voice once", x.beat(1, 3), 1955);
        due("what 4", x.beat(0, 4), NO);
        due("what -1", x.beat(0, -1), NO);
        due("beat 24", x.beat(24, 2), NO);
        due("beat -1", x.beat(-1, 2), NO);
    }

    private static void promise23() {
        SinkingChoir x = pump();
        due("nobody", x.sunk(0), NO);
        x.singer(0, 0, 1, 0);
        due("nobody has a note", x.sunk(4), NO);
        x.singer(2, 0, 1, 0);
        x.singer(3, 0, 1, 0);
        x.link(3, 3);
        tell(x, "t1(1=1);d0-b*b(1=1)");
        due("all", x.sunk(0), -9 + 1);
        due("pure", x.sunk(1), -21506);
        due("drift", x.sunk(2), Math.floorDiv(-1 - 4 - 4 - 9, 2));
        due("slips", x.sunk(3), -8 + 21506 + 9);
        due("foul", x.sunk(4), Math.abs(700000 - (x.size(5, 3) - x.size(10, 9))));
        due("what 5", x.sunk(5), NO);
        due("what -1", x.sunk(-1), NO);
        tell(x, "d0-3(b=1)");
        due("drift, rounded down", x.sunk(2), -2);
    }

    private static void promise24() {
        SinkingChoir x = duet();
        due("loud of the other", x.hears(0, 1), 3 * 7);
        due("loud of the other", x.hears(1, 0), 2 * 7);
        x.place(1, 11);
        due("far", x.hears(0, 1), 3);
        x.place(1, 12);
        due("too far", x.hears(0, 1), 0);
        x.place(1, 15);
        due("not below 0", x.hears(0, 1), 0);
        due("one twice", x.hears(1, 1), NONE);
        due("singer 2", x.hears(0, 2), NONE);
        due("singer 2", x.hears(2, 0), NONE);
        due("singer -1", x.hears(-1, 0), NONE);
    }

    private static void promise25() {
        SinkingChoir x = new SinkingChoir();
        due("nobody", x.standing(NONE), NO);
        x = duet();
        x.place(0, 9);
        x.place(1, 0);
        due("least row", x.standing(0), 0);
        due("least row", x.standing(1), 9);
        due("sunk", x.standing(NONE), 0);
        due("foul", x.standing(8), 3 * 1955);
        due("places stay", x.count(10), 9);
        x.singer(0, 2, 1, 0);
        x.note(0, 2, 12, 81, 80);
        tell(x, "p1(1=1)");
        due("what 7", x.standing(7), NO);
        due("what 9", x.standing(9), NO);
        due("what -2", x.standing(-2), NO);
        standingByTrial(x);
        for (int k = 0; k < 3; k++) {
            x.singer(k, 3, 1, 0);
        }
        due("six", x.standing(8) >= 0 ? 1 : 0, 1);
        x.singer(0, 3, 1, 0);
        due("more than six", x.standing(NONE), -2000000000);
        due("more than six", x.standing(0), -2000000000);
        due("no such what", x.standing(9), NO);
    }

    /** All ways to put three singers, by hand. */
    private static void standingByTrial(SinkingChoir x) {
        int[][] rows = {{0, 2, 9}, {0, 9, 2}, {2, 0, 9}, {2, 9, 0}, {9, 0, 2}, {9, 2, 0}};
        long[] told = {x.standing(NONE), x.standing(8), x.standing(0), x.standing(1), x.standing(2)};
        long[] best = null;
        for (int[] row : rows) {
            for (int i = 0; i < 3; i++) {
                x.place(i, row[i]);
            }
            long sunk = x.sunk(0);
            long foul = x.sunk(4);
            boolean nearer = best == null || Math.abs(sunk) < Math.abs(best[0]);
            if (nearer || Math.abs(sunk) == Math.abs(best[0]) && foul < best[1]) {
                best = new long[] {sunk, foul, row[0], row[1], row[2]};
            }
        }
        for (int k = 0; k < 5; k++) {
            due("standing by trial " + k, told[k], best == null ? 0 : best[k]);
        }
    }

    private static void promise26() {
        SinkingChoir x = new SinkingChoir();
        due("nobody", x.leader(1, 0), NONE);
        x.singer(0, 0, 1, 0);
        for (int b : new int[] {1, 2, 3, 5, 6}) {
            x.note(0, b, 0, 1, 1);
        }
        tell(x, "s1(1=1);d1000(1=1)");
        due("one", x.leader(1, 1), 3000);
        due("one: least set (a giving ahead of a silent beat does as well)", x.leader(1, 0), 1 << 3);
        due("two", x.leader(2, 1), 2000);
        due("two: least set", x.leader(2, 0), 1 << 2 | 1 << 4);
        due("three", x.leader(3, 1), 2000);
        due("three: least set", x.leader(3, 0), 1 << 2 | 1 << 3 | 1 << 4);
        x.given(1 << 6);
        due("in place of those told", x.leader(1, 1), 3000);
        due("given stays", x.count(7), 1);
        due("n 0", x.leader(0, 0), NONE);
        due("n 4", x.leader(4, 0), NONE);
        due("what 2", x.leader(1, 2), NONE);
        due("what -1", x.leader(1, -1), NONE);
        SinkingChoir y = duet();
        due("two of two", y.leader(2, 0), 6);
        due("the least of two", y.leader(1, 0), 2);
        y.blown(-90);
        due("the first beat is off in any case", y.leader(2, 1), 90);
        due("not so many", y.leader(3, 0), -2);
    }

    private static void promise27() {
        SinkingChoir x = new SinkingChoir();
        due("no note", x.worst(), NONE);
        x.note(0, 4, 0, 1, 1);
        due("nothing foul yet", x.worst(), 4);
        x.note(0, 6, 0, 1, 1);
        x.note(1, 6, 7, 3, 2);
        due("the greatest", x.worst(), 6);
        x.note(0, 9, 0, 1, 1);
        x.note(1, 9, 7, 3, 2);
        due("the first of like ones", x.worst(), 6);
        x.note(1, 9, 4, 5, 4);
        due("the greatest", x.worst(), 9);
        x.table(4, -13686);
        due("by the table", x.worst(), 6);
    }

    private static void promise28() {
        SinkingChoir x = new SinkingChoir();
        due("nobody", x.knows(), NO);
        x = duet();
        tell(x, "s1(1=1);k1(b=2);d500(1=1)");
        long told = x.sunk(0);
        due("sunk", told, 250 * 3);
        due("less by half of what he drifted", x.knows(), told - 1000);
        tell(x, "d100*k*b(1=1)");
        due("the letter, too", x.knows(), 100);
        due("he still knows", x.sunk(0), 100);
    }

    private static void promise29() {
        SinkingChoir x = duet();
        yes("least", x.tape(0, 0, -10000000));
        yes("most", x.tape(1, 23, 10000000));
        no("too low", x.tape(0, 0, -10000001));
        no("too high", x.tape(0, 0, 10000001));
        no("singer 2", x.tape(2, 0, 0));
        no("singer -1", x.tape(-1, 0, 0));
        no("beat 24", x.tape(0, 24, 0));
        no("beat -1", x.tape(0, -1, 0));
        due("the last told is on it", x.fit(0, 3), 11200000);
        yes("in place of it", x.tape(0, 0, 1200001));
        due("in place of it", x.fit(0, 3), 1);
    }

    private static void promise30() {
        SinkingChoir x = duet();
        due("no such beat", x.fit(0, 0), -2);
        x.tape(0, 5, 100);
        due("no note there", x.fit(0, 0), -2);
        x.tape(1, 0, 1901955);
        x.tape(1, 1, 1901955);
        due("p", x.fit(1, 0), 1);
        due("s", x.fit(1, 1), 0);
        due("t", x.fit(1, 2), 0);
        due("differences", x.fit(1, 3), 0);
        x.tape(1, 0, 1900000);
        x.tape(1, 1, 1899999);
        due("p of the least row", x.fit(1, 0), 0);
        due("s of the least row", x.fit(1, 1), 0);
        due("t of the least row", x.fit(1, 2), 1);
        due("differences", x.fit(1, 3), 1);
        due("what 4", x.fit(1, 4), NONE);
        due("what -1", x.fit(1, -1), NONE);
        due("singer 2", x.fit(2, 0), NONE);
        due("singer -1", x.fit(-1, 0), NONE);
        fitSteps();
    }

    private static void fitSteps() {
        SinkingChoir x = new SinkingChoir();
        for (int b = 0; b < 4; b++) {
            x.note(0, b, 12, b == 3 ? 10 : 1, b == 3 ? 9 : 1);
        }
        x.singer(0, 0, 1, 1);
        x.blown(5000);
        x.given(4);
        x.tape(0, 0, 1205000);
        x.tape(0, 1, 1208000);
        due("t at first as it is blown, s not: 3000 by either", x.fit(0, 3), 3000);
        x.tape(0, 1, 1205000);
        x.tape(0, 3, 1205000 + 182404);
        due("s over a gap goes by sizes", x.fit(0, 3), 0);
        due("p does not count", x.fit(0, 0), 0);
        due("s", x.fit(0, 1), 1);
        due("t", x.fit(0, 2), 0);
        x.tape(0, 2, 1205000);
        x.tape(0, 3, 1205000);
        due("s of a held note stays, and nothing given changes it", x.fit(0, 3), 0);
        due("s", x.fit(0, 1), 1);
    }

    private static void promise31() {
        SinkingChoir x = new SinkingChoir();
        due("nobody", x.mind(1, 1, 0), NONE);
        x = duet();
        tell(x, "d0-1700(b=2)");
        x.table(0, -900);
        due("sunk", x.sunk(0), -1700);
        due("foul", x.sunk(4), 3 * 1055);
        due("each rounded down", x.mind(10, 100, 0), 10 + 300);
        due("nothing minded", x.mind(0, 0, 1), 0);
        due("nothing minded: the least", x.mind(0, 0, 2), 0);
        x.table(0, 0);
        x.table(2, 1955);
        due("as told", x.mind(1, 100, 0), 1 + 500);
        due("turned", x.mind(1, 100, 1), 1);
        due("what was told for 2 is for 7 then", x.mind(1, 100, 2), 5);
        due("a -1", x.mind(-1, 0, 0), NONE);
        due("a 101", x.mind(101, 0, 0), NONE);
        due("b -1", x.mind(0, -1, 0), NONE);
        due("b 101", x.mind(0, 101, 0), NONE);
        due("what -1", x.mind(0, 0, -1), NONE);
        due("what 3", x.mind(0, 0, 3), NONE);
    }

    private static void promise32() {
        SinkingChoir x = new SinkingChoir();
        due("nothing sung", x.check(0), NONE);
        due("one three, no tape", x.check(1), -2);
        x.feed(0, 0, 0, 0, 0);
        due("a three too many", x.check(1), 0);
        due("emptied", x.count(1), 0);
        x = lone();
        x.note(0, 2, 1, 1, 1);
        due("some are lacking", x.check(0), 0);
        x.feed(0, 0, 0, 0, 2);
        x.feed(100000, 1, 1, 1, 1);
        due("four", x.check(4), -2);
        due("the tape stays", x.count(1), 40);
        due("below 0", x.check(-1), -2);
        due("right", x.check(2), NONE);
        due("emptied", x.count(1), 0);
        long[][] rows = {{0, 0, 0, 0, 2, 100001, 5}, {0, 0, 0, 0, 1, 100000, 4}, {0, 0, 0, 1, 2, 100000, 3},
            {0, 0, 1, 0, 2, 100000, 2}, {0, 1, 0, 0, 2, 100000, 1}, {-1, 0, 0, 0, 2, 100000, 0}};
        for (long[] r : rows) {
            x.feed((int) r[0], (int) r[1], (int) r[2], (int) r[3], (int) r[4]);
            x.feed((int) r[5], 0, 0, 0, 0);
            due("the first that is not so", x.check(2), r[6]);
        }
        x.feed(0, 0, 0, 7, 7);
        due("some are lacking", x.check(1), 3);
        x.feed(0, 0, 0, 0, 2);
        x.feed(100000, 0, 2, 100000, 0);
        due("a three too many", x.check(3), 6);
        due("greatest n", x.check(Integer.MAX_VALUE), -2);
    }

    private static void promise33() {
        SinkingChoir x = pump();
        x.link(1, 1);
        x.link(3, 3);
        x.singer(1, 7, 1, 0);
        x.singer(1, 15, 1, 0);
        x.blown(-1);
        x.seed(77);
        x.given(7);
        tell(x, "p1(1=1);d1(1=1)");
        x.feed(1, 2, 3, 4, 5);
        int[] due = {2, 20, 2, 8, 2, 77, -1, 3, NONE, NONE, 7, 15, NONE};
        for (int what = 0; what < due.length; what++) {
            due("count(" + what + ")", x.count(what), due[what]);
        }
        due("count(-1)", x.count(-1), NONE);
        due("count(17)", x.count(17), NONE);
        due("count(18)", x.count(18), NONE);
        due("least", x.count(Integer.MIN_VALUE), NONE);
        due("most", x.count(Integer.MAX_VALUE), NONE);
    }

    public static void main(String[] args) {
        Runnable[] all = {PromisesTest::promise1, PromisesTest::promise2, PromisesTest::promise3, PromisesTest::promise4,
            PromisesTest::promise5, PromisesTest::promise6, PromisesTest::promise7, PromisesTest::promise8,
            PromisesTest::promise9, PromisesTest::promise10, PromisesTest::promise11, PromisesTest::promise12,
            PromisesTest::promise13, PromisesTest::promise14, PromisesTest::promise15, PromisesTest::promise16,
            PromisesTest::promise17, PromisesTest::promise18, PromisesTest::promise19, PromisesTest::promise20,
            PromisesTest::promise21, PromisesTest::promise22, PromisesTest::promise23, PromisesTest::promise24,
            PromisesTest::promise25, PromisesTest::promise26, PromisesTest::promise27, PromisesTest::promise28,
            PromisesTest::promise29, PromisesTest::promise30, PromisesTest::promise31, PromisesTest::promise32,
            PromisesTest::promise33};
        for (Runnable one : all) {
            promise++;
            one.run();
        }
        System.out.println(wrong == 0 ? "all promises are kept" : wrong + " answers are not as due");
        if (wrong != 0) {
            System.exit(1);
        }
    }
}
