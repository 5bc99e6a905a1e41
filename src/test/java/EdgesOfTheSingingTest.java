/** Promises 21 to 24, and what the Terms say of them: a test for each sentence that names an edge. */
public final class EdgesOfTheSingingTest extends Edges {

    /** A voice that holds while its fraction falls and leaps while it rises: by steps it climbs 5980448 each time. */
    private static SinkingChoir climber(String high, String low) {
        SinkingChoir x = new SinkingChoir();
        StringBuilder row = new StringBuilder();
        for (int b = 0; b < 24; b += 2) {
            String key = b % 4 == 0 ? "1:" : "2:";
            row.append(key).append(high).append(' ').append(key).append(low).append(' ');
        }
        put(x, 0, row.toString());
        x.singer(0, 0, 9, 0);
        return x;
    }

    /** Singers 0 and 1 at place 0 and singer 2 at another, all of one note of KEY 0. */
    private static SinkingChoir third(int place) {
        SinkingChoir x = unison(3, 1);
        x.place(1, 0);
        x.place(2, place);
        return x;
    }

    // ---- 21: pitch

    /** It has no NOTE there, no such ones. */
    static void promise21NoSuchOnes() {
        SinkingChoir x = new SinkingChoir();
        x.note(3, 0, 5, 1, 1);
        x.note(3, 23, 5, 1, 1);
        x.singer(3, 0, 1, 0);
        x.singer(2, 0, 1, 0);
        due("first", x.pitch(0, 0), 500000);
        due("last", x.pitch(0, 23), 500000);
        due("silent", x.pitch(0, 1), NO);
        due("silent voice", x.pitch(1, 0), NO);
        due("singer 2", x.pitch(2, 0), NO);
        for (int k : new int[] {-1, 24, LEAST, MOST}) {
            due("beat " + k, x.pitch(0, k), NO);
            due("singer " + k, x.pitch(k, 0), NO);
        }
    }

    /** By p: those who have sung in this BEAT and that he HEARS: nobody: p counts 0. */
    static void promise21NobodyIsHeard() {
        SinkingChoir x = third(7);
        x.blown(50);
        tell(x, "p1(1=1);d10(i<2)");
        due("the first one hears nobody", x.pitch(0, 0), 60);
        due("the second hears the first", x.pitch(1, 0), 70);
        due("the third both, from seven places", x.pitch(2, 0), 65);
        x.place(2, 8);
        due("from eight places nobody", x.pitch(2, 0), 50);
        x.place(2, 15);
        due("from fifteen places nobody", x.pitch(2, 0), 50);
        tell(x, "p100(1=1);t1(1=1);d10(i<2)");
        due("p counts 0 beside t", x.pitch(2, 0), 50);
        x.place(1, 10);
        due("one of two is heard", x.pitch(2, 0), 59);
    }

    /** Those who have sung: one who sings later or in another BEAT alone is not heard. */
    static void promise21WhoHasSung() {
        SinkingChoir x = new SinkingChoir();
        put(x, 0, "0:1/1 - 0:1/1");
        put(x, 1, "- 0:1/1 0:1/1");
        x.singer(0, 0, 1, 0);
        x.singer(1, 0, 1, 0);
        tell(x, "p1(1=1);d500(i=0)");
        due("later", x.pitch(0, 0), 500);
        due("in another beat", x.pitch(1, 1), 0);
        due("later", x.pitch(0, 2), 500);
        due("before", x.pitch(1, 2), 500);
    }

    /** Pitch of each, more by SIZE of his own FRACTION less that one's, times how he HEARS him. */
    static void promise21PureToWhomHeHears() {
        SinkingChoir x = new SinkingChoir();
        x.note(0, 0, 0, 3, 2);
        x.note(1, 0, 0, 5, 4);
        x.note(2, 0, 0, 1, 1);
        x.singer(0, 0, 9, 0);
        x.singer(1, 15, 1, 0);
        x.singer(2, 8, 1, 0);
        tell(x, "p1(i=2);d400(i=0)");
        due("one of 1 times 1", x.pitch(2, 0), -386314);
        x.place(2, 7);
        due("one of 9 times 1", x.pitch(2, 0), 400 - FIFTH);
        x.place(1, 14);
        due("both, by 9 and 1", x.pitch(2, 0), -670031);
        x.note(2, 0, 0, 2, 1);
        due("both, by 9 and 1, of an octave more", x.pitch(2, 0), 529969);
    }

    /** Together, through all these together, rounded down: below 0, too. */
    static void promise21PRoundedDown() {
        String[] texts = {"d1(i=0)", "d0-1(i=0)", "d0-1(i=1)", "d3(i=1)", "d0-3(i=0)"};
        int[] due = {0, -1, -1, 1, -2};
        for (int k = 0; k < texts.length; k++) {
            SinkingChoir x = third(3);
            tell(x, "p1(i=2);" + texts[k]);
            due(texts[k], x.pitch(2, 0), due[k]);
        }
    }

    /** By s: HELD: his own last pitch, whatever his FRACTION does; else the step. */
    static void promise21ByStep() {
        SinkingChoir x = new SinkingChoir();
        put(x, 0, "9:1/1 9:3/2 10:3/2 9:5/4 - 9:1/1 9:8/45");
        x.singer(0, 0, 1, 0);
        x.table(9, 44);
        tell(x, "s1(1=1)");
        int[] due = {900044, 900044, 900044, 900044 + 386314 - FIFTH, NO, 900044 - FIFTH, 900044 - FIFTH};
        for (int b = 0; b < due.length; b++) {
            due("beat " + b, x.pitch(0, b), due[b]);
        }
    }

    /** No last one: s counts 0. */
    static void promise21NoLastOne() {
        SinkingChoir x = new SinkingChoir();
        put(x, 0, "- - 9:3/2 9:3/2");
        x.singer(0, 0, 1, 1);
        x.blown(101);
        tell(x, "s100(1=1);k1(1=1)");
        due("k alone", x.pitch(0, 2), 900000);
        tell(x, "s100(1=1);t1(1=1)");
        due("t alone", x.pitch(0, 2), 900101);
        tell(x, "s100(1=1)");
        due("nothing: that by t", x.pitch(0, 2), 900101);
        tell(x, "s100(1=1);k1(1=1);d101(b=2)");
        due("then s counts", x.pitch(0, 3), 900100);
    }

    /** Who is silent keeps its last pitch. */
    static void promise21WhoIsSilentKeepsItsLastPitch() {
        SinkingChoir x = new SinkingChoir();
        x.note(0, 0, 0, 3, 2);
        x.note(0, 23, 0, 3, 2);
        put(x, 1, "0:1/1 0:1/1 0:1/1");
        x.singer(0, 0, 1, 0);
        x.singer(1, 0, 1, 0);
        tell(x, "s1(1=1);d7000(i=1);d333(b=0)");
        due("over all beats between", x.pitch(0, 23), 333);
        x.note(0, 22, 5, 5, 4);
        due("by the last note, not the first", x.pitch(0, 23), 333);
        due("a step", x.pitch(0, 22), 333 + 386314 - FIFTH);
    }

    /** By t: more by what was GIVEN; by k: THE TABLE alone (does not know: k counts 0). */
    static void promise21ByTableAndByKnowing() {
        SinkingChoir x = new SinkingChoir();
        x.note(0, 0, 60, 1, 1);
        x.singer(0, 0, 1, 1);
        x.singer(0, 0, 1, 0);
        x.table(0, -60000);
        x.blown(-200000);
        due("none", x.pitch(0, 0), 5740000);
        tell(x, "k1(1=1)");
        due("knows", x.pitch(0, 0), 5940000);
        due("does not know: that by t", x.pitch(1, 0), 5740000);
        tell(x, "k1(1=1);t1(1=1)");
        due("half", x.pitch(0, 0), 5840000);
        due("does not know", x.pitch(1, 0), 5740000);
    }

    /** THE AIM: AIMS times weights, together, through all weights, rounded down: below 0, too. */
    static void promise21AimRoundedDown() {
        int[] blown = {1, -1, 2, -2, 3, -3};
        int[] due = {0, -1, 1, -1, 1, -2};
        for (int k = 0; k < blown.length; k++) {
            SinkingChoir x = new SinkingChoir();
            x.note(0, 0, 0, 1, 1);
            x.singer(0, 0, 1, 1);
            x.blown(blown[k]);
            tell(x, "t1(1=1);k1(1=1)");
            due("blown " + blown[k], x.pitch(0, 0), due[k]);
        }
    }

    /** That by p is rounded down before it is weighed. */
    static void promise21BothAreRounded() {
        SinkingChoir x = third(0);
        x.blown(3);
        tell(x, "p3(i=2);t1(1=1);d0-3(i=0);d0-2(i=1)");
        due("a half is lost", x.pitch(2, 0), 0);
        x.blown(4);
        due("both by one more", x.pitch(2, 0), 1);
    }

    /** All 0: that by t; and d. */
    static void promise21AllWeights0() {
        SinkingChoir x = new SinkingChoir();
        put(x, 0, "9:1/1 9:1/1");
        x.singer(0, 0, 1, 0);
        x.blown(60);
        for (String text : new String[] {"d5(1=1)", "p0(1=1);d5(1=1)", "p9(1=1);k9(1=1);d5(1=1)", "t0(1=1);d5(1=1)",
            "s9(b=9);d5(1=1)", "p1/0(1=1);t0-1(1=1);d5(1=1)"}) {
            tell(x, text);
            due(text, x.pitch(0, 1), 900065);
        }
    }

    /** As far up and down as a pitch can come, by steps. */
    static void promise21FarthestPitch() {
        SinkingChoir x = climber("45/8", "8/45");
        tell(x, "s1(1=1);d20000(1=1)");
        due("up", x.pitch(0, 23), 100000 + 11 * 5980448 + 24 * 20000);
        due("off", x.beat(23, 0), 11 * 5980448 + 24 * 20000 - 100000);
        due("sunk", x.sunk(0), 11 * 5980448 + 23 * 20000 - 100000);
        tell(x, "s1(1=1);do(b=23)");
        due("thousands", x.pitch(0, 23), 100000 + 11 * 5980448 - 20000);
        SinkingChoir y = climber("8/45", "45/8");
        tell(y, "s1(1=1);d0-20000(1=1)");
        due("down", y.pitch(0, 23), 100000 - 11 * 5980448 - 24 * 20000);
        due("off", y.beat(23, 0), -11 * 5980448 - 24 * 20000 - 100000);
        tell(y, "s1(1=1);do-50000(b=23)");
        due("thousands", y.pitch(0, 23), 100000 - 11 * 5980448 + (11 * 5980448 + 100000) / 1000 - 50000);
    }

    // ---- 22: beat

    /** Nobody has one (of 0), no such ones. */
    static void promise22NoSuchOnes() {
        SinkingChoir x = new SinkingChoir();
        put(x, 0, "0:1/1 - 0:1/1");
        put(x, 1, "0:1/1 7:3/2");
        x.singer(0, 0, 1, 0);
        due("off", x.beat(0, 0), 0);
        due("nobody has one", x.beat(1, 0), NO);
        due("foul of nobody", x.beat(1, 1), 0);
        due("how many", x.beat(1, 2), 0);
        due("nobody in the last", x.beat(23, 0), NO);
        due("nobody in the last", x.beat(23, 1), 0);
        due("nobody in the last", x.beat(23, 2), 0);
        due("nobody in the last", x.beat(23, 3), 0);
        for (int k : new int[] {-1, LEAST, MOST}) {
            due("what " + k, x.beat(0, k), NO);
            for (int what = 0; what < 4; what++) {
                due("beat " + k, x.beat(k, what), NO);
                due("beat 24", x.beat(24, what), NO);
            }
        }
        due("what 4", x.beat(0, 4), NO);
        due("what 4 of a silent one", x.beat(23, 4), NO);
    }

    /** OFF: together, through how many, rounded down: below 0, too. */
    static void promise22OffRoundedDown() {
        int[] d = {0, 1, 2, 3, -1, -2, -3, -4};
        int[] due = {0, 0, 0, 1, -1, -1, -1, -2};
        for (int k = 0; k < d.length; k++) {
            SinkingChoir x = unison(3, 1);
            tell(x, "d0" + (d[k] < 0 ? "-" : "+") + Math.abs(d[k]) + "(i=1)");
            due("off by " + d[k], x.beat(0, 0), due[k]);
        }
    }

    /** Of those who have a NOTE in it: pitch less THE TABLE of each one's KEY. */
    static void promise22OffOfThoseWhoHaveANote() {
        SinkingChoir x = new SinkingChoir();
        put(x, 0, "5:1/1 -");
        put(x, 1, "60:1/1 60:1/1");
        x.table(5, 60000);
        x.table(0, -60000);
        for (int i = 0; i < 8; i++) {
            x.singer(i % 2, i, 1, 0);
        }
        tell(x, "d100*i(1=1)");
        due("all eight", x.beat(0, 0), 350);
        due("how many", x.beat(0, 2), 8);
        due("four of them", x.beat(1, 0), 400);
        due("how many", x.beat(1, 2), 4);
    }

    /** FOUL: over pairs of those who have a NOTE in it: how far pitch less pitch is from SIZE less SIZE. */
    static void promise22FoulOverPairs() {
        SinkingChoir x = unison(8, 1);
        due("none", x.beat(0, 1), 0);
        tell(x, "d1(i=7)");
        due("seven pairs", x.beat(0, 1), 7);
        tell(x, "d0-i(1=1)");
        due("all 28 pairs", x.beat(0, 1), 84);
        SinkingChoir y = new SinkingChoir();
        y.note(0, 0, 0, 3, 2);
        y.note(1, 0, 7, 1, 1);
        y.singer(0, 0, 1, 0);
        due("one alone", y.beat(0, 1), 0);
        y.singer(1, 0, 1, 0);
        due("a pair", y.beat(0, 1), 700000 + FIFTH);
        due("the table's", y.beat(0, 3), 700000 + FIFTH);
        y.silent(0, 0);
        due("one alone", y.beat(0, 1), 0);
    }

    /** THE TABLE's FOUL: by VOICES (each once), whoever sings them. */
    static void promise22TableFoulByVoices() {
        SinkingChoir x = new SinkingChoir();
        put(x, 0, "0:1/1 0:1/1");
        put(x, 1, "7:3/2 7:3/2");
        due("nobody sings", x.beat(1, 3), 1955);
        for (int k = 0; k < 4; k++) {
            x.singer(1, 0, 1, 0);
        }
        due("four sing one voice", x.beat(1, 3), 1955);
        tell(x, "d20000(1=1)");
        x.blown(1000);
        due("as if all sang the table", x.beat(1, 3), 1955);
        x.table(7, 1955);
        due("by what is told", x.beat(1, 3), 0);
        x.table(7, 60000);
        x.table(0, -60000);
        due("by what is told", x.beat(1, 3), 118045);
        for (int v = 0; v < 6; v++) {
            x.note(v, 0, v < 3 ? 60 : 0, v < 3 ? 8 : 45, v < 3 ? 45 : 8);
        }
        due("nine pairs of six voices", x.beat(0, 3), 9 * (6000000 + 5980448L));
    }

    // ---- 23: sunk

    /** Nobody has a NOTE, no such what. */
    static void promise23NobodyHasANote() {
        SinkingChoir x = new SinkingChoir();
        x.note(0, 0, 0, 1, 1);
        x.singer(1, 0, 1, 0);
        for (int what = -1; what < 6; what++) {
            due("nobody, what " + what, x.sunk(what), NO);
        }
        x.note(1, 23, 0, 1, 1);
        for (int what = 0; what < 5; what++) {
            due("one beat, what " + what, x.sunk(what), 0);
        }
        for (int what : new int[] {-1, 5, LEAST, MOST}) {
            due("what " + what, x.sunk(what), NO);
        }
        x.silent(1, 23);
        due("nobody any more", x.sunk(0), NO);
    }

    /** OFF of the last BEAT in which somebody has a NOTE, less that of the first such one. */
    static void promise23FirstAndLastBeatOfSingers() {
        SinkingChoir x = new SinkingChoir();
        put(x, 0, "9:9/8 9:1/1 9:3/2 9:9/8 9:5/4 9:1/1");
        put(x, 1, "- - 0:1/1 - 0:1/1");
        x.singer(1, 0, 1, 0);
        for (int b = 1; b < 6; b++) {
            x.link(b, 0);
        }
        tell(x, "d1000*b+7(1=1)");
        due("beats 2 and 4", x.sunk(0), 2000);
        due("pure", x.sunk(1), FIFTH - 386314);
        due("drift", x.sunk(2), 6014);
        due("slips", x.sunk(3), 2000 - 6014 - FIFTH + 386314);
        due("foul", x.sunk(4), 0);
    }

    /** Each OFF is rounded down by itself. */
    static void promise23EachOffIsRounded() {
        SinkingChoir x = unison(2, 2);
        tell(x, "d0-1(i=0&b=0);d1(i=0&b=1)");
        due("first", x.beat(0, 0), -1);
        due("last", x.beat(1, 0), 0);
        due("sunk", x.sunk(0), 1);
        due("drift", x.sunk(2), 0);
        due("slips", x.sunk(3), 1);
        due("foul", x.sunk(4), 2);
    }

    /** DRIFT: all d together through how many SINGERS have sung, rounded down. */
    static void promise23DriftRoundedDown() {
        int[] d = {1, 2, 3, -1, -2, -3};
        int[] due = {0, 1, 1, -1, -1, -2};
        for (int k = 0; k < d.length; k++) {
            SinkingChoir x = unison(2, 1);
            x.singer(5, 0, 1, 0);
            tell(x, "d0" + (d[k] < 0 ? "-" : "+") + Math.abs(d[k]) + "(i=0);d9(i=2)");
            due("two of three have sung, d " + d[k], x.sunk(2), due[k]);
        }
    }

    static void promise23DriftOfAllNotes() {
        SinkingChoir x = unison(8, 24);
        x.silent(0, 11);
        tell(x, "d99999(1=1)");
        due("most", x.sunk(2), 23 * 20000);
        tell(x, "d0-99999(1=1)");
        due("least", x.sunk(2), -23 * 20000);
        due("all by the table and d", x.sunk(0), 0);
        due("slips", x.sunk(3), 23 * 20000);
    }

    /** FOUL of all BEATS together, the greatest that can be by the table. */
    static void promise23FoulOfAllBeats() {
        SinkingChoir x = new SinkingChoir();
        for (int b = 0; b < 24; b++) {
            x.note(0, b, 60, 8, 45);
            x.note(1, b, 0, 45, 8);
        }
        for (int i = 0; i < 8; i++) {
            x.singer(i % 2, 0, 1, 0);
        }
        due("sixteen pairs in 24 beats", x.sunk(4), 24 * 16 * (6000000 + 5980448L));
    }

    // ---- 24: hears

    /** LOUD of that one times (8 less how far their PLACES are apart), not below 0. */
    static void promise24NotBelow0() {
        SinkingChoir x = new SinkingChoir();
        x.singer(0, 0, 9, 0);
        x.singer(5, 0, 1, 1);
        for (int place = 0; place < 16; place++) {
            x.place(1, place);
            due("place " + place, x.hears(1, 0), place < 8 ? 9 * (8 - place) : 0);
            due("place " + place, x.hears(0, 1), place < 8 ? 8 - place : 0);
        }
        x.place(0, 15);
        x.place(1, 8);
        due("from the other side", x.hears(1, 0), 9);
        x.place(1, 7);
        due("from the other side", x.hears(1, 0), 0);
    }

    /** No such ones, one twice. */
    static void promise24NoSuchOnes() {
        SinkingChoir x = unison(2, 0);
        due("one twice", x.hears(0, 0), NONE);
        due("one twice", x.hears(1, 1), NONE);
        for (int k : new int[] {-1, 2, 7, 8, LEAST, MOST}) {
            due("hearer " + k, x.hears(k, 0), NONE);
            due("heard " + k, x.hears(0, k), NONE);
            due("both " + k, x.hears(k, k), NONE);
        }
        due("those that are", x.hears(1, 0), 7);
    }

    public static void main(String[] args) {
        runAll(EdgesOfTheSingingTest.class, 21, 24);
    }
}
