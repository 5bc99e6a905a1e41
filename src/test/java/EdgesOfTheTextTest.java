/** Promises 13 to 20, and what the Terms say of them: a test for each sentence that names an edge. */
public final class EdgesOfTheTextTest extends Edges {

    private static final String CLAUSE = "d1(b=1)";
    private static final String FOURTEEN = (CLAUSE + ";").repeat(13) + CLAUSE;

    /** A text that is right and so many bytes long: 14 clauses, the first E ever longer (its pitch is d1). */
    private static String longText(int length) {
        StringBuilder s = new StringBuilder("d1(1=1)");
        while (s.length() < length - 1) {
            s.insert(2, "+0");
        }
        if (s.length() < length) {
            s.insert(1, '0');
        }
        return s.toString();
    }

    private static void fault(String text, int answer) {
        due(text, tell(new SinkingChoir(), text), answer);
    }

    // ---- 13: singer

    /** SINGERS 0 to 7; NONE: 8 are there. */
    static void promise13EightSingers() {
        SinkingChoir x = new SinkingChoir();
        for (int i = 0; i < 8; i++) {
            due("singer", x.singer(0, i, 1, 0), i);
        }
        due("a ninth", x.singer(0, 0, 1, 0), NONE);
        due("a ninth", x.singer(6, 0, 1, 0), NONE);
        due("count(0)", x.count(0), 8);
        due("count(17)", x.count(17), 7);
        due("count(18)", x.count(18), NONE);
    }

    /** A VOICE (0 to 5); two may have one. */
    static void promise13VoicesFrom0To5() {
        SinkingChoir x = new SinkingChoir();
        for (int v : new int[] {-1, 6, LEAST, MOST}) {
            due("voice " + v, x.singer(v, 0, 1, 0), NONE);
        }
        due("voice 0", x.singer(0, 0, 1, 0), 0);
        due("voice 5", x.singer(5, 0, 1, 0), 1);
        due("voice 5", x.singer(5, 0, 1, 0), 2);
    }

    /** A PLACE (0 to 15). */
    static void promise13PlacesFrom0To15() {
        SinkingChoir x = new SinkingChoir();
        for (int place : new int[] {-1, 16, LEAST, MOST}) {
            due("place " + place, x.singer(0, place, 1, 0), NONE);
        }
        due("place 0", x.singer(0, 0, 1, 0), 0);
        due("place 15", x.singer(0, 15, 1, 0), 1);
        due("count(11)", x.count(11), 15);
    }

    /** LOUD (1 to 9). */
    static void promise13LoudFrom1To9() {
        SinkingChoir x = new SinkingChoir();
        for (int loud : new int[] {0, 10, -1, LEAST, MOST}) {
            due("loud " + loud, x.singer(0, 0, loud, 0), NONE);
        }
        due("loud 1", x.singer(0, 0, 1, 0), 0);
        due("loud 9", x.singer(0, 0, 9, 0), 1);
        due("hears", x.hears(0, 1), 72);
        due("hears", x.hears(1, 0), 8);
    }

    /** KNOWS (1, 0). */
    static void promise13Knows1Or0() {
        SinkingChoir x = new SinkingChoir();
        for (int knows : new int[] {-1, 2, LEAST, MOST}) {
            due("knows " + knows, x.singer(0, 0, 1, knows), NONE);
        }
        due("knows 0", x.singer(0, 0, 1, 0), 0);
        due("knows 1", x.singer(0, 0, 1, 1), 1);
        due("count(0)", x.count(0), 2);
    }

    // ---- 14: place

    /** SINGER i goes to a PLACE (two may have one). */
    static void promise14TwoMayHaveOne() {
        SinkingChoir x = unison(8, 1);
        for (int i = 0; i < 8; i++) {
            yes("place", x.place(i, 15));
            due("count", x.count(10 + i), 15);
        }
        yes("where it is", x.place(7, 15));
        due("hears", x.hears(0, 7), 8);
        yes("least", x.place(0, 0));
        due("hears", x.hears(0, 7), 0);
    }

    /** False: no such ones. */
    static void promise14NoSuchOnes() {
        SinkingChoir x = unison(2, 1);
        for (int k : new int[] {-1, LEAST, MOST}) {
            no("singer " + k, x.place(k, 0));
            no("place " + k, x.place(0, k));
        }
        no("singer 2", x.place(2, 0));
        no("place 16", x.place(1, 16));
        due("stays", x.count(11), 1);
    }

    // ---- 15: table

    /** What is told for KEY modulo 12. */
    static void promise15KeyModulo12() {
        SinkingChoir x = new SinkingChoir();
        int[] keys = {0, 11, 12, 23, 24, 59, 60};
        for (int b = 0; b < keys.length; b++) {
            x.note(0, b, keys[b], 1, 1);
        }
        x.singer(0, 0, 1, 0);
        yes("first", x.table(0, 7));
        yes("last", x.table(11, -9));
        int[] due = {7, 1099991, 1200007, 2299991, 2400007, 5899991, 6000007};
        for (int b = 0; b < keys.length; b++) {
            due("key " + keys[b], x.pitch(0, b), due[b]);
        }
        for (int key : new int[] {-1, 12, LEAST, MOST}) {
            no("key " + key, x.table(key, 1));
        }
        due("key 12", x.pitch(0, 2), 1200007);
    }

    /** -60000 to 60000. */
    static void promise15MillsTo60000() {
        SinkingChoir x = lone();
        yes("most", x.table(0, 60000));
        for (int mills : new int[] {-60001, 60001, LEAST, MOST}) {
            no("mills " + mills, x.table(0, mills));
        }
        due("most", x.pitch(0, 0), 60000);
        yes("least", x.table(0, -60000));
        due("least", x.pitch(0, 0), -60000);
        yes("the same", x.table(0, -60000));
        yes("nothing", x.table(0, 0));
        due("nothing", x.pitch(0, 0), 0);
    }

    // ---- 16: seed

    /** THE SEED (0 to 65535). */
    static void promise16SeedTo65535() {
        SinkingChoir x = new SinkingChoir();
        for (int seed : new int[] {-1, 65536, LEAST, MOST}) {
            no("seed " + seed, x.seed(seed));
        }
        due("as at first", x.count(5), 1);
        yes("most", x.seed(65535));
        due("most", x.count(5), 65535);
        yes("least", x.seed(0));
        due("least", x.count(5), 0);
        yes("the same", x.seed(0));
    }

    /** X = (25173 X + 13849) modulo 65536, X modulo 100, drawn anew for each NOTE that is sung. */
    static void promise16Luck() {
        SinkingChoir x = unison(2, 24);
        tell(x, "dx(1=1)");
        for (int seed : new int[] {0, 1, 2, 65534, 65535}) {
            x.seed(seed);
            long luck = seed;
            for (int b = 0; b < 24; b += 1) {
                luck = (25173 * luck + 13849) % 65536;
                due("seed " + seed, x.pitch(0, b), luck % 100);
                luck = (25173 * luck + 13849) % 65536;
                due("seed " + seed, x.pitch(1, b), luck % 100);
            }
        }
        x.seed(0);
        due("of 0", x.pitch(0, 0), 49);
        x.seed(65535);
        due("of 65535", x.pitch(0, 0), 12);
        due("the seed itself stays", x.count(5), 65535);
    }

    /** For each NOTE that is sung, asked for or not; once for all that one asks. */
    static void promise16DrawnOnceForANote() {
        SinkingChoir x = unison(1, 3);
        tell(x, "d0(b<2);dx*100+x-x(x=x)");
        long luck = 1;
        for (int b = 0; b < 3; b++) {
            luck = (25173 * luck + 13849) % 65536;
        }
        due("third note", x.pitch(0, 2), 100 * (luck % 100));
        x.note(0, 1, 0, 1, 1);
        x.silent(0, 1);
        due("second note", x.pitch(0, 2), 100 * ((25173L * 39022 + 13849) % 65536 % 100));
    }

    // ---- 17: blown

    /** -200000 to 200000: what somebody blew. */
    static void promise17MillsTo200000() {
        SinkingChoir x = lone();
        yes("most", x.blown(200000));
        for (int mills : new int[] {-200001, 200001, LEAST, MOST}) {
            no("mills " + mills, x.blown(mills));
        }
        due("most", x.count(6), 200000);
        due("most", x.pitch(0, 0), 200000);
        yes("least", x.blown(-200000));
        due("least", x.count(6), -200000);
        due("least", x.pitch(0, 0), -200000);
        yes("nothing", x.blown(0));
        due("nothing", x.pitch(0, 0), 0);
    }

    // ---- 18: given

    /** A set of BEATS (bits 0 to 23). */
    static void promise18Bits0To23() {
        SinkingChoir x = new SinkingChoir();
        yes("all", x.given(16777215));
        due("all", x.count(7), 24);
        for (int set : new int[] {-1, 16777216, LEAST, MOST}) {
            no("set " + set, x.given(set));
        }
        due("all", x.count(7), 24);
        yes("the last", x.given(1 << 23));
        due("one", x.count(7), 1);
        yes("none", x.given(0));
        due("none", x.count(7), 0);
    }

    /** Then what was GIVEN is 0: from the BEAT on, ahead of the first one too. */
    static void promise18WhatWasGivenIs0() {
        SinkingChoir x = unison(1, 24);
        x.blown(-500);
        x.given(1);
        due("ahead of the first", x.pitch(0, 0), 0);
        due("and on", x.pitch(0, 23), 0);
        x.given(1 << 23);
        due("before the last", x.pitch(0, 22), -500);
        due("the last", x.pitch(0, 23), 0);
        x.given(1 << 12);
        due("before", x.pitch(0, 11), -500);
        due("then", x.pitch(0, 12), 0);
        due("and on", x.pitch(0, 23), 0);
    }

    /** Each SINGER's last pitch is THE TABLE of his last KEY: who is silent there, too; who has none yet has none. */
    static void promise18LastPitchIsTheTable() {
        SinkingChoir x = new SinkingChoir();
        put(x, 0, "5:1/1 - 7:9/8");
        put(x, 1, "- - 3:1/1");
        x.singer(0, 0, 1, 0);
        x.singer(1, 0, 1, 0);
        x.table(5, 40);
        tell(x, "s1(1=1);d900(b=0);do(b=2)");
        x.blown(70);
        due("first", x.pitch(0, 0), 500040 + 70 + 900);
        due("by the step from it", x.pitch(0, 2), 501010 + 203910 - 1);
        due("none yet", x.pitch(1, 2), 300070);
        x.given(2);
        due("ahead of a silent beat", x.pitch(0, 2), 500040 + 203910);
        due("still none", x.pitch(1, 2), 300000);
        x.given(4);
        due("ahead of it", x.pitch(0, 2), 500040 + 203910);
        x.given(1);
        due("ahead of the first", x.pitch(0, 2), 500940 + 203910 - 1);
    }

    // ---- 19: feed

    /** Twenty bytes come behind the tape; NONE if that would be more than 220. */
    static void promise19To220() {
        SinkingChoir x = new SinkingChoir();
        for (int k = 1; k <= 11; k++) {
            due("feed", x.feed(k, k, k, k, k), 20 * k);
        }
        due("full", x.feed(0, 0, 0, 0, 0), NONE);
        due("full", x.feed(LEAST, MOST, -1, 0, 1), NONE);
        due("count(1)", x.count(1), 220);
        due("emptied", x.text(1), -1000);
        due("from the beginning", x.feed(0, 0, 0, 0, 0), 20);
    }

    /** The highest of each int first: bytes of 128 and more, too. */
    static void promise19HighestFirst() {
        SinkingChoir x = new SinkingChoir();
        due("right", check(x), NONE);
        x.note(0, 0, 0, 1, 1);
        x.singer(0, 0, 1, 0);
        x.blown(-2);
        due("numbers below 0", check(x, 0, 0, -2), NONE);
        x.blown(-200000);
        due("numbers below 0", check(x, 0, 0, -200000), NONE);
        SinkingChoir y = lone();
        y.feed(0x64343332, 0x3128313d, 0x3129a0ff, -1, LEAST);
        due("byte 160", y.text(13), -1010);
        y.feed(0x64343332, 0x3128313d, 0x3129a0ff, -1, LEAST);
        due("by the first ten", y.text(10), 1);
        due("pitch", y.pitch(0, 0), 4321);
        y.feed(0x64312831, 0x3d3129ff, 0, 0, 0);
        due("byte 255", y.text(8), -1007);
        y.feed(0x64312831, 0x3d312900, 0, 0, 0);
        due("byte 0", y.text(8), -1007);
        y.feed(0x64312831, 0x3d3129bb, 0, 0, 0);
        due("byte of 128 more than ;", y.text(8), -1007);
    }

    // ---- 20: text

    /** The TEXT by the first n bytes of the tape (1 to 200; empty then). */
    static void promise20FirstBytes() {
        SinkingChoir x = lone();
        feed(x, "d1(1=1);d2(1=1)");
        feed(x, "x".repeat(200));
        due("full", x.count(1), 220);
        due("the first bytes alone", x.text(7), 1);
        due("empty then", x.count(1), 0);
        due("pitch", x.pitch(0, 0), 1);
        feed(x, "d1(1=1);d2(1=1)");
        due("a fault", x.text(8), -1008);
        due("empty then, too", x.count(1), 0);
        due("the text before stays", x.count(2), 1);
        due("the text before stays", x.pitch(0, 0), 1);
    }

    /** At most 200 bytes. */
    static void promise20TwoHundredBytes() {
        SinkingChoir x = lone();
        feed(x, longText(200));
        due("200", x.text(200), 1);
        due("pitch", x.pitch(0, 0), 1);
        feed(x, longText(199));
        due("199", x.text(199), 1);
        feed(x, longText(200) + " ");
        due("201 of 220", x.text(201), NONE);
        due("the tape stays", x.count(1), 220);
        due("the end at 199", x.text(199), -1199);
        feed(x, "d0" + "+1".repeat(99));
        due("the end at 200", x.text(200), -1200);
        feed(x, longText(199) + ";");
        due("the end at 200", x.text(200), -1200);
        feed(x, longText(199) + ")");
        due("the last byte", x.text(200), -1199);
    }

    /** NONE: no such n, it has not so many (the tape stays). */
    static void promise20NotSoMany() {
        SinkingChoir x = new SinkingChoir();
        due("empty", x.text(1), NONE);
        due("empty", x.text(0), NONE);
        feed(x, "d1(1=1)");
        for (int n : new int[] {0, -1, 21, 200, 201, LEAST, MOST}) {
            due("n " + n, x.text(n), NONE);
        }
        due("the tape stays", x.count(1), 20);
        due("no text", x.count(2), 0);
        due("all that it has", x.text(20), -1007);
        feed(x, "d1(1=1)");
        due("one", x.text(1), -1001);
    }

    /** In place of the one before. */
    static void promise20InPlaceOfTheOneBefore() {
        SinkingChoir x = lone();
        due("two", tell(x, "d5(1=1);t9(1=1)"), 2);
        due("one", tell(x, "d1(b=9)"), 1);
        due("nothing of the one before", x.pitch(0, 0), 0);
        due("count(2)", x.count(2), 1);
        due("fault behind what is right", tell(x, "d7(1=1);d8(1=1);?"), -1016);
        due("stays", x.pitch(0, 0), 0);
        due("stays", x.count(2), 1);
    }

    /** However many there were before: texts of the greatest length, some of them with a fault at the end. */
    static void promise20InPlaceOfManyBefore() {
        SinkingChoir x = lone();
        for (int k = 0; k < 30; k++) {
            due("right", tell(x, longText(200)), 1);
            due("fault", tell(x, longText(199) + "?"), -1199);
        }
        due("pitch", x.pitch(0, 0), 1);
        due("another", tell(x, "d77+" + longText(190).substring(1)), 1);
        due("pitch", x.pitch(0, 0), 78);
    }

    /** CLAUSES (14 at most) with a ; between two. */
    static void promise20FourteenClauses() {
        fault(FOURTEEN, 14);
        for (char letter : "pstkd".toCharArray()) {
            fault(FOURTEEN + ";" + letter + "1(b=1)", -4112);
        }
        fault(FOURTEEN + ";", -1112);
        fault(FOURTEEN + ";x1(b=1)", -1112);
        fault(FOURTEEN + ";;", -1112);
        fault(FOURTEEN + "d1(b=1)", -1111);
        fault(FOURTEEN.substring(0, 110), -1110);
        fault(CLAUSE + "," + CLAUSE, -1007);
        fault(CLAUSE + ":" + CLAUSE, -1007);
        SinkingChoir x = lone();
        tell(x, "d1(1=2);".repeat(13) + "d9(1=1)");
        due("the 14th counts", x.pitch(0, 0), 9);
    }

    /** Of the first one of a letter whose C holds. */
    static void promise20TheFirstThatHolds() {
        SinkingChoir x = unison(1, 3);
        tell(x, "d1(b=1);d2(b<2);d3(b<3)");
        due("the second", x.pitch(0, 0), 2);
        due("the first", x.pitch(0, 1), 1);
        due("the third", x.pitch(0, 2), 3);
        tell(x, "d1(1=1);t1(1=1);s1(1=1);d5(1=1);t5(1=1)");
        due("clauses of other letters between", x.pitch(0, 0), 1);
        tell(x, "d0(1=1);d5(1=1)");
        due("an E of 0 is one too", x.pitch(0, 0), 0);
        tell(x, "d1/b(1=1);d5(1=1)");
        due("a refused E too", x.pitch(0, 0), 0);
        tell(x, "d1(1/b=1);d5(1=1)");
        due("a refused C does not hold", x.pitch(0, 0), 5);
        tell(x, "d1(1=2)");
        due("none: 0", x.pitch(0, 0), 0);
    }

    /** Weights p s t k (0 to 100; none: 0); E beyond its bounds is the bound. */
    static void promise20WeightsTo100() {
        String[] beyond = {"100", "101", "99999", "46340*46340"};
        for (String w : beyond) {
            SinkingChoir x = unison(2, 1);
            tell(x, "p" + w + "(1=1);t1(1=1);d10302(i=0)");
            due("p " + w, x.pitch(1, 0), 10200);
            x = unison(1, 2);
            tell(x, "s" + w + "(1=1);t1(1=1);d10302(b=0)");
            due("s " + w, x.pitch(0, 1), 10200);
            x = new SinkingChoir();
            x.note(0, 0, 0, 1, 1);
            x.singer(0, 0, 1, 1);
            x.blown(10302);
            tell(x, "t" + w + "(1=1);k1(1=1)");
            due("t " + w, x.pitch(0, 0), 10200);
            tell(x, "k" + w + "(1=1);t1(1=1)");
            due("k " + w, x.pitch(0, 0), 102);
        }
    }

    static void promise20WeightsFrom0() {
        for (String w : new String[] {"0", "0-1", "0-99999", "65536*32768", "1/0"}) {
            SinkingChoir x = unison(2, 1);
            tell(x, "p" + w + "(1=1);t1(1=1);d10302(i=0)");
            due("p " + w, x.pitch(1, 0), 0);
            x = unison(1, 2);
            tell(x, "s" + w + "(1=1);t1(1=1);d10302(b=0)");
            due("s " + w, x.pitch(0, 1), 0);
            x = new SinkingChoir();
            x.note(0, 0, 0, 1, 1);
            x.singer(0, 0, 1, 1);
            x.blown(10302);
            tell(x, "t" + w + "(1=1);k1(1=1)");
            due("t " + w, x.pitch(0, 0), 0);
            tell(x, "k" + w + "(1=1);t1(1=1)");
            due("k " + w, x.pitch(0, 0), 10302);
        }
    }

    /** d (-20000 to 20000; none: 0). */
    static void promise20DTo20000() {
        due("19999", d("19999"), 19999);
        due("20000", d("20000"), 20000);
        due("20001", d("20001"), 20000);
        due("99999", d("99999"), 20000);
        due("-19999", d("0-19999"), -19999);
        due("-20000", d("0-20000"), -20000);
        due("-20001", d("0-20001"), -20000);
        due("most", d("65536*32768-1"), 20000);
        due("least", d("65536*32768"), -20000);
    }

    /** TERMS with + or - between two; FACTORS with one of * / % between two; from the left on. */
    static void promise20FromTheLeftOn() {
        due("100-10-1", d("100-10-1"), 89);
        due("100-10+1", d("100-10+1"), 91);
        due("100/10/5", d("100/10/5"), 2);
        due("100/10*5", d("100/10*5"), 50);
        due("100*10/5", d("100*10/5"), 200);
        due("17%10%4", d("17%10%4"), 3);
        due("17%10*4", d("17%10*4"), 28);
        due("3*17%10", d("3*17%10"), 1);
        due("2+3*4", d("2+3*4"), 14);
        due("20-6/4", d("20-6/4"), 19);
        due("[2+3]*4", d("[2+3]*4"), 20);
        due("20-[6-4]", d("20-[6-4]"), 18);
        due("100/[10/5]", d("100/[10/5]"), 50);
    }

    /** A number of one to five digits; a sixth digit is FAULT 2, at it. */
    static void promise20FiveDigits() {
        due("0", d("0"), 0);
        due("9", d("9"), 9);
        due("00019", d("00019"), 19);
        due("12345", d("12345"), 12345);
        fault("d123456", -2006);
        fault("d1234567(1=1)", -2006);
        fault("d000000(1=1)", -2006);
        fault("d1+123456(1=1)", -2008);
        fault("d1(123456=1)", -2008);
        fault("d1(1=123456)", -2010);
        fault("d1([99999+000001]=1)", -2015);
        fault("d12345", -1006);
        fault("d12345b(1=1)", -1006);
        fault("d12345 6(1=1)", -1006);
        fault("d99999*99999(1=1)", 1);
    }

    /** C: PARTS with a | between two, one of which must hold; a PART: PIECES with an & between two, all of which must. */
    static void promise20PartsAndPieces() {
        for (int bits = 0; bits < 16; bits++) {
            boolean a = (bits & 1) == 1;
            boolean b = (bits & 2) == 2;
            boolean c = (bits & 4) == 4;
            boolean d = (bits & 8) == 8;
            String[] s = {a ? "1=1" : "1=2", b ? "1<2" : "2<1", c ? "2>1" : "1>1", d ? "!1=2" : "!1=1"};
            due("part of four " + bits, holds(String.join("&", s)) ? 1 : 0, a && b && c && d ? 1 : 0);
            due("four parts " + bits, holds(String.join("|", s)) ? 1 : 0, a || b || c || d ? 1 : 0);
            due("two and two " + bits, holds(s[0] + "&" + s[1] + "|" + s[2] + "&" + s[3]) ? 1 : 0,
                a && b || c && d ? 1 : 0);
            due("brackets " + bits, holds("(" + s[0] + "|" + s[1] + ")&(" + s[2] + "|" + s[3] + ")") ? 1 : 0,
                (a || b) && (c || d) ? 1 : 0);
            due("not of brackets " + bits, holds("!(" + s[0] + "|" + s[1] + ")|" + s[2] + "&!" + s[3]) ? 1 : 0,
                !(a || b) || c && !d ? 1 : 0);
        }
    }

    /** E, one of < > =, and E. */
    static void promise20Comparisons() {
        String[] signs = {"<", ">", "="};
        String[] pairs = {"1 2", "2 1", "2 2", "0-1 0", "65536*32768 0", "65536*32768-1 0", "65536*65536 0"};
        int[] due = {1, 2, 4, 1, 1, 2, 4};
        for (int p = 0; p < pairs.length; p++) {
            String[] sides = pairs[p].split(" ");
            for (int k = 0; k < 3; k++) {
                String piece = sides[0] + signs[k] + sides[1];
                due(piece, holds(piece) ? 1 : 0, due[p] >> k & 1);
                due("!" + piece, holds("!" + piece) ? 1 : 0, 1 - (due[p] >> k & 1));
                due("!!" + piece, holds("!!" + piece) ? 1 : 0, due[p] >> k & 1);
            }
        }
    }

    /** b the BEAT, v the VOICE, i the SINGER, k KNOWS, f LOUD, n how many SINGERS have a NOTE in this BEAT. */
    static void promise20LettersOfTheSinger() {
        SinkingChoir x = new SinkingChoir();
        x.note(0, 0, 0, 1, 1);
        x.note(5, 23, 0, 1, 1);
        x.singer(0, 0, 1, 0);
        for (int i = 1; i < 8; i++) {
            x.singer(5, 0, 9, 1);
        }
        String[] letters = {"b", "v", "i", "k", "f", "n"};
        int[] least = {0, 0, 0, 0, 1, 1};
        int[] most = {23, 5, 7, 1, 9, 7};
        for (int k = 0; k < letters.length; k++) {
            tell(x, "d" + letters[k] + "(1=1)");
            due(letters[k] + " least", x.pitch(0, 0), least[k]);
            due(letters[k] + " most", x.pitch(7, 23), most[k]);
        }
        x.note(0, 23, 0, 1, 1);
        tell(x, "dn(1=1)");
        due("all eight", x.pitch(0, 23), 8);
    }

    /** h HELD (1, 0). */
    static void promise20LetterH() {
        SinkingChoir x = new SinkingChoir();
        put(x, 0, "0:1/1 0:3/2 - 0:1/1 0:1/1 1:1/1");
        x.singer(0, 0, 1, 0);
        tell(x, "dh(1=1)");
        int[] due = {0, 1, NO, 0, 1, 100000};
        for (int b = 0; b < due.length; b++) {
            due("beat " + b, x.pitch(0, b), due[b]);
        }
    }

    /** j how many KEYS it leaps from its last NOTE (0 if there is none), u whether up (1, 0). */
    static void promise20LettersJAndU() {
        SinkingChoir x = new SinkingChoir();
        put(x, 0, "60:1/1 0:1/1 - - 60:1/1 60:1/1 59:1/1 60:1/1");
        x.singer(0, 0, 1, 0);
        tell(x, "d10*j+u(1=1)");
        int[] due = {6000000, 600, NO, NO, 6000601, 6000000, 5900010, 6000011};
        for (int b = 0; b < due.length; b++) {
            due("beat " + b, x.pitch(0, b), due[b]);
        }
    }

    /** o how many thousands (rounded down) its last pitch is beneath THE TABLE of its last KEY (above it: below 0). */
    static void promise20LetterO() {
        int[] off = {0, 1, 999, 1000, 1001, 2000, -1, -999, -1000, -1001, 20000, -20000};
        int[] due = {0, -1, -1, -1, -2, -2, 0, 0, 1, 1, -20, 20};
        for (int k = 0; k < off.length; k++) {
            SinkingChoir x = new SinkingChoir();
            put(x, 0, "7:3/2 - 9:1/1");
            x.singer(0, 0, 1, 0);
            x.table(7, 333);
            tell(x, "d0" + (off[k] < 0 ? "-" : "+") + Math.abs(off[k]) + "(b=0);do(b=2);t1(1=1)");
            due("off by " + off[k], x.pitch(0, 2), 900000 + due[k]);
        }
    }

    /** 0 if there is none. */
    static void promise20LetterOIfThereIsNone() {
        SinkingChoir x = unison(1, 1);
        x.blown(-5000);
        tell(x, "do(1=1)");
        due("none", x.pitch(0, 0), -5000);
        x.note(0, 1, 0, 1, 1);
        due("beneath by what was blown and no more", x.pitch(0, 1), -4995);
    }

    /** All is reckoned with 32 bits, as the machine does. */
    static void promise20ThirtyTwoBits() {
        due("2^32", d("65536*65536+3"), 3);
        due("2^32-1", d("65535*65537"), -1);
        due("2^31", d("32768*65536"), -20000);
        due("2^31-1", d("32768*65536-1"), 20000);
        due("-2^31-1", d("0-32768*65536-1"), 20000);
        due("more than fits", d("46341*46341"), -20000);
        due("least through -1", d("32768*65536/[0-1]"), -20000);
        due("rest of least by -1", d("32768*65536%[0-1]+4"), 4);
        due("least less 1, halved", d("[32768*65536-1]/99999/2"), 10737);
        due("rest", d("[32768*65536-1]%10000"), 3647);
        due("towards 0", d("[0-7]/2"), -3);
        due("towards 0", d("7/[0-2]"), -3);
        due("sign of what is divided", d("[0-7]%4"), -3);
        due("sign of what is divided", d("7%[0-4]"), 3);
        due("99999*99999", d("99999*99999/99999"), 14098);
    }

    /** What is divided by 0 is REFUSED: then an E is 0. */
    static void promise20DividedBy0() {
        for (String e : new String[] {"1/0", "1%0", "0/0", "5+1/b", "5-1%b", "1/b*0+5", "[1/b]+5", "5+[5-[1/[b-b]]]",
            "9/[h+j+u]", "1/[3-3]%5"}) {
            due(e, d(e), 0);
        }
        due("0 divided", d("0/5+5"), 5);
        due("0 divided", d("0%5+5"), 5);
    }

    /** Then a C does not hold, whatever it asks besides. */
    static void promise20DividedBy0InC() {
        for (String c : new String[] {"1/b=0", "0=1/b", "1%b<9", "!1/b=0", "!!1/b=0", "!(1/b=0)", "1/b=0|1=1",
            "1=1&1/b=0", "1=1&1/b=0|1=1", "(1/b=0)|1=1", "1=2|1/b=0|1=1", "[1/b]*0=0"}) {
            no(c, holds(c));
        }
    }

    /** Of a C as much is asked, from the left, as matters. */
    static void promise20AsMuchAsMatters() {
        for (String c : new String[] {"1=1|1/b=0", "1=1|1=1&1/b=0", "1=2&1/b=0|1=1", "(1=1|1/b=0)&1=1",
            "!(1=2&1/b=0)", "(1=2&1/b=0)|1=1", "1=2|1=1|1/b=0", "!1=1&1/b=0|!1=2", "!!(1=1|1/b=0)"}) {
            yes(c, holds(c));
        }
        for (String c : new String[] {"1=2&1/b=0", "!(1=1|1/b=0)", "(1=2&1/b=0)&1/b=0", "(1=1|1/b=0)&1=2"}) {
            no(c, holds(c));
        }
    }

    /** FAULT 1: what can't stand there. */
    static void promise20WhatCantStandThere() {
        String[] texts = {";", "(", " ", "b", "D1(1=1)", "d(1=1)", "d)", "d+1(1=1)", "d-1(1=1)", "d1+(1=1)", "d1*/2(1=1)",
            "d1;", "d1)", "d1=1", "d1[1](1=1)", "db1(1=1)", "d1b(1=1)", "d[1)(1=1)", "d[](1=1)", "d[1(1=1)", "d1()",
            "d1(1)", "d1(b)", "d1(1;", "d1(1=)", "d1(=1)", "d1(1=1=1)", "d1(1==1)", "d1(1<=1)", "d1(&1=1)", "d1(1=1&)",
            "d1(1=1||1=1)", "d1(!)", "d1(!&", "d1(1=!1=1)", "d1(1!=1)", "d1((1=1)", "d1(())", "d1((1)=1)", "d1((1=1)1=1)",
            "d1((1=1)=1)", "d1(1=1](", "d1(1=1))", "d1(1=1)d", "d1(1=1) ;", "d1(1=1);;", "d1(1=1);1", "d1(1=1);b",
            "d1(p=1)", "d1(s=1)", "d1(t=1)", "d1(d=1)", "dp(1=1)", "d1 (1=1)", "d1( 1=1)", "d1(1 =1)", "d1(1=1 )",
            "d\t1(1=1)", "d1(1=1)\n", "d1(1=(1))", "d1([1=1])", "d1([1]=[1)", "d1,5(1=1)", "d1.5(1=1)", "d/1(1=1)",
            "d:(1=1)", "d1(c=1)", "d1(y=1)", "d1(w=1)"};
        int[] places = {0, 0, 0, 0, 0, 1, 1, 1, 1, 3, 3,
            2, 2, 2, 2, 2, 2, 3, 2, 3, 3,
            4, 4, 4, 5, 3, 6, 5, 5, 3, 7,
            7, 4, 4, 5, 4, 8, 4, 5, 8,
            8, 6, 7, 7, 7, 8, 8, 8,
            3, 3, 3, 3, 1, 2, 3, 4, 6,
            1, 7, 5, 5, 9, 2, 2, 1,
            1, 3, 3, 3};
        due("as many", texts.length, places.length);
        for (int k = 0; k < texts.length; k++) {
            fault(texts[k], -1000 - places[k]);
        }
    }

    /** The end, too. */
    static void promise20TheEndCantStandThere() {
        String whole = "d[b+1]*2(!(1<2&b>1)|1=1);t1(1=1)";
        for (int n = 1; n < whole.length(); n++) {
            fault(whole.substring(0, n), n == 24 ? 1 : -1000 - n);
        }
        fault(whole, 2);
    }

    /** The first FAULT from the left counts. */
    static void promise20TheFirstFromTheLeft() {
        fault("d123456?(", -2006);
        fault("d?123456(", -1001);
        fault("d[[[[[[[123456", -5007);
        fault("d123456[[[[[[[", -2006);
        fault("d1((((((()", -5008);
        fault("d1(((((()", -1008);
        fault(FOURTEEN.substring(0, 109) + "?)", -1109);
        fault(FOURTEEN.replace("b=1", "b=?") + ";d", -1005);
    }

    /** FAULT 5: a seventh of ( [ ! that are open in one another, at it (the ( of the CLAUSE counts). */
    static void promise20SevenOpen() {
        fault("d1((((((1=1))))))", 1);
        fault("d1(((((((1=1)))))))", -5008);
        fault("d1(!!!!!1=1)", 1);
        fault("d1(!!!!!!1=1)", -5008);
        fault("d1(!(!(!1=1)))", 1);
        fault("d1(!(!(!(1=1))))", -5008);
        fault("d1(!(!(!!1=1)))", -5008);
        fault("d1(([[[[1]]]]=1))", 1);
        fault("d1(([[[[[1]]]]]=1))", -5008);
        fault("d1([[[[[1]]]]]=[[[[[1]]]]])", 1);
        fault("d1([[[[[[1]]]]]]=1)", -5008);
        fault("d1(1=[[[[[[1]]]]]])", -5010);
        fault("d1(!!!!![1]=1)", -5008);
        fault("d1(!!!!!1=[1])", -5010);
        fault("d1((((((!1=1))))))", -5008);
        fault("d1(((((([1]=1))))))", -5008);
        fault("d1((((((1=1+[1]))))))", -5012);
    }

    /** The E of a CLAUSE stands ahead of its (. */
    static void promise20TheEStandsAhead() {
        fault("d[[[[[[1]]]]]](1=1)", 1);
        fault("d[[[[[[[1]]]]]]](1=1)", -5007);
        fault("d[[[[[[1]]]]]]+[[[[[[1]]]]]]((((((1=1))))))", 1);
    }

    /** A ! is open till its PIECE ends. */
    static void promise20OpenTillItsPieceEnds() {
        fault("d1(!!!!!1=1&!!!!!1=1)", 1);
        fault("d1(!!!!!1=1|!!!!!1=1)", 1);
        fault("d1(!1=1&([[[[1]]]]=1))", 1);
        fault("d1(!1=1&([[[[[1]]]]]=1))", -5013);
        fault("d1(!([[[[1]]]]=1))", -5008);
        fault("d1((!!!!1=1)&(!!!!1=1))", 1);
        fault("d1(!(1=1)&((((1=1)))))", 1);
        fault("d1(" + "(1=1)&".repeat(20) + "1=1)", 1);
    }

    /** What can't stand there is FAULT 1, however many are open. */
    static void promise20WhereNoneCanStand() {
        fault("d1((((((1(", -1009);
        fault("d1((((((1=(", -1010);
        fault("d1((((((1=!", -1010);
        fault("d1(!!!!!1[", -1009);
        fault("d[[[[[[(", -1007);
        fault("d[[[[[[!", -1007);
    }

    public static void main(String[] args) {
        runAll(EdgesOfTheTextTest.class, 13, 20);
    }
}
