/** Promises 1 to 12, and what the Terms say of them: a test for each sentence that names an edge. */
public final class EdgesOfThePieceTest extends Edges {

    /** Two voices whose fractions go up and down against each other: one of them always leads the keynote up. */
    private static SinkingChoir opposed(String high, String low) {
        SinkingChoir x = new SinkingChoir();
        StringBuilder first = new StringBuilder();
        StringBuilder second = new StringBuilder();
        for (int b = 0; b < 24; b++) {
            first.append("30:").append(b % 2 == 0 ? high : low).append(' ');
            second.append("30:").append(b % 2 == 0 ? low : high).append(' ');
        }
        put(x, 0, first.toString());
        put(x, 1, second.toString());
        return x;
    }

    private static void linkAll(SinkingChoir x, int inOddBeats, int inEvenBeats) {
        for (int b = 1; b < 24; b++) {
            yes("link", x.link(b, b % 2 == 1 ? inOddBeats : inEvenBeats));
        }
    }

    /** In each of so many beats behind the first some voices fall or rise as far as can be, and all others against them. */
    private static SinkingChoir torn(int beats, int upwards) {
        SinkingChoir x = new SinkingChoir();
        for (int v = 0; v < 6; v++) {
            for (int b = 0; b <= beats; b++) {
                boolean high = (v < upwards) == (b % 2 == 0);
                x.note(v, b, 7, high ? 45 : 8, high ? 8 : 45);
            }
        }
        return x;
    }

    /** 300 keynotes in BEAT 20, of three directions 3, 10 and 10. */
    private static SinkingChoir threeHundred() {
        SinkingChoir x = new SinkingChoir();
        put(x, 0, "5:1/1 5:2/1 5:1/1 5:3/2 5:1/1 5:3/2 5:1/1 5:3/2 5:1/1 5:3/2 5:1/1 5:3/2 5:15/8 5:3/2 5:15/8 5:3/2 "
            + "5:15/8 5:3/2 5:15/8 5:3/2 5:15/8");
        return x;
    }

    /** 43 keynotes of octaves in BEATS 6 to 8, and by fifths 7 times as many in BEAT 13: 301. */
    private static SinkingChoir threeHundredAndOne() {
        SinkingChoir x = new SinkingChoir();
        put(x, 0, "- 5:4/1 5:1/4 5:4/1 5:1/4 5:4/1 5:1/4");
        put(x, 1, "- 5:1/4 5:4/1 5:1/4 5:4/1 5:1/4 5:4/1");
        put(x, 2, "- 5:2/1 5:1/2 5:2/1 5:1/2 5:2/1 5:1/2");
        put(x, 3, "- 5:1/2 5:2/1 5:1/2 5:2/1 5:1/2 5:2/1");
        put(x, 4, "5:2/1 5:1/1 5:2/1 5:1/1 5:2/1 5:1/1 5:2/1 9:1/1 9:3/2 9:1/1 9:3/2 9:1/1 9:3/2 9:1/1");
        put(x, 5, "5:1/1 5:2/1 5:1/1 5:2/1 5:1/1 5:2/1 5:1/1");
        return x;
    }

    /** Two voices that go to the fifth and back, held all the while. */
    private static SinkingChoir twins() {
        SinkingChoir x = new SinkingChoir();
        put(x, 2, "12:1/1 12:3/2 12:1/1");
        put(x, 4, "24:1/1 24:3/2 24:1/1");
        return x;
    }

    // ---- 1: "No NOTES, LINKS, SINGERS, TEXT; THE SEED 1."

    static void promise01NoNotes() {
        SinkingChoir x = new SinkingChoir();
        due("count(3)", x.count(3), 0);
        due("worst()", x.worst(), NONE);
        for (int what = 0; what < 6; what++) {
            due("sink", x.sink(what), NO);
        }
        for (int b = 0; b < 24; b++) {
            due("held", x.keynote(b, 5), 0);
            due("torn", x.keynote(b, 6), 0);
        }
        for (int v = 0; v < 6; v++) {
            no("silent", x.silent(v, 0));
            no("silent", x.silent(v, 23));
        }
    }

    static void promise01NoLinks() {
        SinkingChoir x = new SinkingChoir();
        due("count(4)", x.count(4), 0);
        for (int b = 0; b < 24; b++) {
            due("link", x.keynote(b, 4), NONE);
            due("keynote", x.keynote(b, 0), 0);
        }
    }

    static void promise01NoSingers() {
        SinkingChoir x = new SinkingChoir();
        due("count(0)", x.count(0), 0);
        for (int i = 0; i < 8; i++) {
            due("count(10)", x.count(10 + i), NONE);
            due("pitch", x.pitch(i, 0), NO);
            no("place", x.place(i, 0));
            no("tape", x.tape(i, 0, 0));
            due("fit", x.fit(i, 0), NONE);
        }
        due("hears", x.hears(0, 1), NONE);
        x.note(0, 0, 0, 1, 1);
        due("sunk", x.sunk(0), NO);
        due("standing", x.standing(NONE), NO);
        due("standing", x.standing(8), NO);
        due("leader", x.leader(1, 0), NONE);
        due("knows", x.knows(), NO);
        due("mind", x.mind(1, 1, 0), NONE);
        due("how many", x.beat(0, 2), 0);
        due("check(0)", x.check(0), NONE);
    }

    /** A text: none at first; all weights 0: that by t. */
    static void promise01NoText() {
        SinkingChoir x = lone();
        due("count(2)", x.count(2), 0);
        x.blown(77);
        due("pitch", x.pitch(0, 0), 77);
        due("drift", x.sunk(2), 0);
    }

    static void promise01TheSeedIs1() {
        SinkingChoir x = lone();
        due("count(5)", x.count(5), 1);
        tell(x, "dx(1=1)");
        due("luck", x.pitch(0, 0), 39022 % 100);
    }

    /** What is told for KEYS: 0 at first; set of BEATS: none at first; what somebody blew: 0 at first. */
    static void promise01NothingIsTold() {
        SinkingChoir x = new SinkingChoir();
        for (int key = 0; key < 12; key++) {
            x.note(0, key, key, 1, 1);
        }
        x.singer(0, 0, 1, 0);
        for (int key = 0; key < 12; key++) {
            due("table", x.pitch(0, key), 100000 * key);
        }
        due("what was blown", x.count(6), 0);
        due("given", x.count(7), 0);
        due("tape", x.count(1), 0);
        due("text(1)", x.text(1), NONE);
        due("check(1)", x.check(1), -2);
        due("fit", x.fit(0, 0), -2);
        no("no breath", x.breath(0, 0, false));
        no("no breath", x.breath(5, 23, false));
    }

    /** All memory is the choir's own. */
    static void promise01MemoryIsItsOwn() {
        SinkingChoir x = new SinkingChoir();
        SinkingChoir y = new SinkingChoir();
        put(x, 0, "0:1/1 0:3/2");
        x.link(1, 0);
        x.breath(0, 0, true);
        x.singer(0, 3, 1, 1);
        x.table(0, 50);
        x.seed(9);
        x.blown(8);
        x.given(6);
        tell(x, "d1(1=1)");
        x.feed(1, 2, 3, 4, 5);
        int[] due = {0, 0, 0, 0, 0, 1, 0, 0};
        for (int what = 0; what < 8; what++) {
            due("count(" + what + ")", y.count(what), due[what]);
        }
        due("keynote", y.keynote(1, 0), 0);
        y.note(0, 0, 0, 1, 1);
        y.singer(0, 0, 1, 1);
        due("pitch", y.pitch(0, 0), 0);
        yes("breath", y.breath(0, 0, true));
        due("pitch of the other", x.pitch(0, 0), 59);
        due("keynote of the other", x.keynote(1, 0), -FIFTH);
    }

    /** At most 512 calls: the last ones are answered as the first. */
    static void promise01FiveHundredAndTwelveCalls() {
        SinkingChoir x = new SinkingChoir();
        for (int k = 0; k < 507; k++) {
            yes("note", x.note(k % 6, k / 6 % 24, k % 61, 1, 1));
        }
        yes("note", x.note(0, 0, 7, 3, 2));
        yes("note", x.note(0, 1, 7, 1, 1));
        due("singer", x.singer(0, 0, 1, 0), 0);
        due("pitch", x.pitch(0, 1), 700000);
        due("the 512th", x.torn(0, 1), -FIFTH);
    }

    // ---- 2: note

    /** VOICES 0 to 5. */
    static void promise02VoicesFrom0To5() {
        SinkingChoir x = new SinkingChoir();
        for (int v = 0; v < 6; v++) {
            yes("voice " + v, x.note(v, 0, 0, 1, 1));
        }
        for (int v : new int[] {-1, 6, LEAST, MOST}) {
            no("voice " + v, x.note(v, 0, 0, 1, 1));
        }
        due("count(3)", x.count(3), 6);
    }

    /** BEATS 0 to 23. */
    static void promise02BeatsFrom0To23() {
        SinkingChoir x = new SinkingChoir();
        for (int b = 0; b < 24; b++) {
            yes("beat " + b, x.note(5, b, 0, 1, 1));
        }
        for (int b : new int[] {-1, 24, LEAST, MOST}) {
            no("beat " + b, x.note(0, b, 0, 1, 1));
            no("beat " + b, x.note(5, b, 0, 1, 1));
        }
        due("count(3)", x.count(3), 24);
    }

    /** All VOICES in all BEATS: full. */
    static void promise02AllNotes() {
        SinkingChoir x = new SinkingChoir();
        for (int c = 0; c < 144; c++) {
            x.note(c / 24, c % 24, 60, 1, 1);
        }
        due("count(3)", x.count(3), 144);
        yes("in place of one", x.note(5, 23, 0, 1, 1));
        due("count(3)", x.count(3), 144);
        due("last beat", x.sink(5), 23);
        due("all are held", x.keynote(22, 5), 63);
        due("but the one", x.keynote(23, 5), 31);
    }

    /** A KEY (0 to 60). */
    static void promise02KeysFrom0To60() {
        SinkingChoir x = new SinkingChoir();
        yes("key 0", x.note(0, 0, 0, 1, 1));
        yes("key 60", x.note(0, 1, 60, 1, 1));
        for (int key : new int[] {-1, 61, LEAST, MOST}) {
            no("key " + key, x.note(0, 2, key, 1, 1));
        }
        x.singer(0, 0, 1, 0);
        due("pitch of key 0", x.pitch(0, 0), 0);
        due("pitch of key 60", x.pitch(0, 1), 6000000);
        due("beat 2", x.beat(2, 2), 0);
    }

    /** Each 1 to 2000. */
    static void promise02NumbersFrom1To2000() {
        SinkingChoir x = new SinkingChoir();
        yes("1/1", x.note(0, 0, 0, 1, 1));
        yes("2000/2000", x.note(0, 1, 0, 2000, 2000));
        yes("2000/1944", x.note(0, 2, 0, 2000, 1944));
        yes("1944/2000", x.note(0, 3, 0, 1944, 2000));
        for (int n : new int[] {0, -1, -2, 2025, 2048, 2160, 4000, LEAST, MOST}) {
            no(n + "/1024", x.note(0, 4, 0, n, 1024));
            no("1024/" + n, x.note(0, 4, 0, 1024, n));
            no(n + "/" + n, x.note(0, 4, 0, n, n));
        }
        due("count(3)", x.count(3), 4);
    }

    /** Of primes 2, 3, 5 alone. */
    static void promise02PrimesOf2And3And5Alone() {
        SinkingChoir x = new SinkingChoir();
        yes("1500/1024", x.note(0, 0, 0, 1500, 1024));
        for (int n : new int[] {7, 11, 13, 14, 49, 1001, 1999, 1990}) {
            no(n + "/" + n, x.note(0, 1, 0, n, n));
            no(n + "/1000", x.note(0, 1, 0, n, 1000));
            no("1000/" + n, x.note(0, 1, 0, 1000, n));
        }
        due("count(3)", x.count(3), 1);
    }

    /** The SIZE from -3000000 to 3000000: 45/8 is the widest beneath, 256/45 the narrowest beyond. */
    static void promise02SizeTo3000000() {
        SinkingChoir x = new SinkingChoir();
        yes("45/8", x.note(0, 0, 0, 45, 8));
        yes("8/45", x.note(0, 1, 0, 8, 45));
        yes("1800/320", x.note(0, 2, 0, 1800, 320));
        no("256/45", x.note(0, 3, 0, 256, 45));
        no("45/256", x.note(0, 3, 0, 45, 256));
        no("2000/1", x.note(0, 3, 0, 2000, 1));
        no("1/2000", x.note(0, 3, 0, 1, 2000));
        due("count(3)", x.count(3), 3);
    }

    /** A NOTE in place of one before. */
    static void promise02InPlaceOfOneBefore() {
        SinkingChoir x = new SinkingChoir();
        put(x, 0, "12:1/1 12:3/2");
        x.singer(0, 0, 1, 0);
        due("torn", x.torn(0, 1), FIFTH);
        yes("another fraction", x.note(0, 1, 12, 5, 4));
        due("torn", x.torn(0, 1), 386314);
        yes("another key", x.note(0, 1, 13, 5, 4));
        due("torn", x.torn(0, 1), NO);
        due("pitch", x.pitch(0, 1), 1300000);
        due("count(3)", x.count(3), 2);
    }

    /** Its LINKS fall that can't be any more: in its BEAT and in the next one. */
    static void promise02LinksFall() {
        SinkingChoir x = new SinkingChoir();
        put(x, 0, "9:1/1 9:3/2 9:1/1 9:3/2");
        put(x, 1, "9:1/1 9:5/4 9:1/1 9:5/4");
        x.link(1, 0);
        x.link(2, 0);
        x.link(3, 0);
        yes("another key", x.note(0, 1, 10, 3, 2));
        due("link of its beat", x.keynote(1, 4), NONE);
        due("link of the next", x.keynote(2, 4), NONE);
        due("link behind", x.keynote(3, 4), 0);
        due("keynote", x.keynote(2, 0), 0);
        due("keynote", x.keynote(3, 0), -FIFTH);
        yes("as it was", x.note(0, 1, 9, 3, 2));
        due("fallen ones stay away", x.count(4), 1);
    }

    /** LINKS that can be stay, and those of other VOICES. */
    static void promise02LinksStay() {
        SinkingChoir x = new SinkingChoir();
        put(x, 0, "9:1/1 9:3/2 9:1/1");
        put(x, 1, "9:1/1 9:5/4 9:1/1");
        x.link(1, 0);
        x.link(2, 1);
        yes("the same", x.note(0, 1, 9, 3, 2));
        yes("another fraction", x.note(0, 1, 9, 4, 3));
        due("link", x.keynote(1, 4), 0);
        due("keynote", x.keynote(1, 0), -498045);
        yes("key of the other voice's link", x.note(0, 2, 10, 1, 1));
        due("link", x.keynote(2, 4), 1);
        due("keynote", x.keynote(2, 0), 386314 - 498045);
    }

    /** The first BEAT and the last one have but one LINK that can fall. */
    static void promise02LinksFallAtTheEnds() {
        SinkingChoir x = new SinkingChoir();
        StringBuilder row = new StringBuilder();
        for (int b = 0; b < 24; b++) {
            row.append("9:1/1 ");
        }
        put(x, 0, row.toString());
        x.link(1, 0);
        x.link(22, 0);
        x.link(23, 0);
        yes("first", x.note(0, 0, 8, 1, 1));
        due("link", x.keynote(1, 4), NONE);
        yes("last", x.note(0, 23, 8, 1, 1));
        due("link", x.keynote(23, 4), NONE);
        due("link", x.keynote(22, 4), 0);
        due("count(4)", x.count(4), 1);
    }

    // ---- 3: silent

    /** False: no such ones. */
    static void promise03NoSuchOnes() {
        SinkingChoir x = new SinkingChoir();
        x.note(0, 0, 0, 1, 1);
        x.note(5, 23, 0, 1, 1);
        for (int k : new int[] {-1, LEAST, MOST}) {
            no("voice " + k, x.silent(k, 0));
            no("beat " + k, x.silent(0, k));
        }
        no("voice 6", x.silent(6, 0));
        no("beat 24", x.silent(0, 24));
        yes("least", x.silent(0, 0));
        yes("most", x.silent(5, 23));
    }

    /** False: it is. */
    static void promise03ItIs() {
        SinkingChoir x = new SinkingChoir();
        no("never had a note", x.silent(0, 0));
        x.note(0, 0, 0, 1, 1);
        no("another beat", x.silent(0, 1));
        no("another voice", x.silent(1, 0));
        yes("has a note", x.silent(0, 0));
        no("has none any more", x.silent(0, 0));
        due("count(3)", x.count(3), 0);
        due("sink", x.sink(0), NO);
    }

    /** LINKS fall likewise. */
    static void promise03LinksFallLikewise() {
        SinkingChoir x = new SinkingChoir();
        put(x, 3, "9:1/1 9:3/2 9:1/1 9:3/2");
        put(x, 1, "9:1/1 9:5/4");
        x.link(1, 3);
        x.link(2, 3);
        x.link(3, 3);
        yes("another voice", x.silent(1, 1));
        due("links stay", x.count(4), 3);
        yes("silent", x.silent(3, 1));
        due("link of its beat", x.keynote(1, 4), NONE);
        due("link of the next", x.keynote(2, 4), NONE);
        due("link behind", x.keynote(3, 4), 3);
        yes("silent at the end", x.silent(3, 3));
        due("count(4)", x.count(4), 0);
    }

    // ---- 4: breath

    /** False: no such ones. */
    static void promise04NoSuchOnes() {
        SinkingChoir x = new SinkingChoir();
        for (int k : new int[] {-1, LEAST, MOST}) {
            no("voice " + k, x.breath(k, 0, true));
            no("beat " + k, x.breath(0, k, true));
            no("voice " + k, x.breath(k, 0, false));
            no("beat " + k, x.breath(0, k, false));
        }
        no("voice 6", x.breath(6, 0, true));
        no("beat 24", x.breath(5, 24, true));
    }

    /** False: it is so; each VOICE and BEAT by itself, a silent one too. */
    static void promise04ItIsSo() {
        SinkingChoir x = new SinkingChoir();
        for (int v : new int[] {0, 5}) {
            for (int b : new int[] {0, 23}) {
                no("none is", x.breath(v, b, false));
                yes("is", x.breath(v, b, true));
                no("is already", x.breath(v, b, true));
            }
        }
        yes("not any more", x.breath(5, 0, false));
        no("not already", x.breath(5, 0, false));
        no("another stays", x.breath(5, 23, true));
        no("another stays", x.breath(0, 0, true));
    }

    /** r: whether a BREATH is ahead (1, 0), in the first BEAT and the last one too. */
    static void promise04AheadOfTheFirstAndTheLast() {
        SinkingChoir x = new SinkingChoir();
        x.note(2, 0, 0, 1, 1);
        x.note(2, 22, 0, 1, 1);
        x.note(2, 23, 0, 1, 1);
        x.singer(2, 0, 1, 0);
        tell(x, "d10+r(1=1)");
        x.breath(2, 0, true);
        x.breath(2, 23, true);
        x.breath(1, 22, true);
        due("first", x.pitch(0, 0), 11);
        due("of another voice", x.pitch(0, 22), 10);
        due("last", x.pitch(0, 23), 11);
        x.silent(2, 23);
        x.note(2, 23, 0, 1, 1);
        due("it stays with a note that goes and comes", x.pitch(0, 23), 11);
    }

    // ---- 5: size

    /** An octave (2) is 1200000 of them, 3 is 1901955, 5 is 2786314, those of d taken off. */
    static void promise05OfPrimes() {
        SinkingChoir x = new SinkingChoir();
        due("1/1", x.size(1, 1), 0);
        due("2/1", x.size(2, 1), 1200000);
        due("3/1", x.size(3, 1), 1901955);
        due("5/1", x.size(5, 1), 2786314);
        due("1/2", x.size(1, 2), -1200000);
        due("1/5", x.size(1, 5), -2786314);
        due("30/30", x.size(30, 30), 0);
        due("2/3", x.size(2, 3), -FIFTH);
    }

    /** Each 1 to 2000: the greatest of each prime, and the greatest of all. */
    static void promise05NumbersFrom1To2000() {
        SinkingChoir x = new SinkingChoir();
        due("1024/729", x.size(1024, 729), 10 * 1200000 - 6 * 1901955);
        due("729/1024", x.size(729, 1024), 6 * 1901955 - 10 * 1200000);
        due("625/576", x.size(625, 576), 141346);
        due("1458/1280", x.size(1458, 1280), 6 * 1901955 - 7 * 1200000 - 2786314);
        due("2000/2000", x.size(2000, 2000), 0);
        for (int n : new int[] {0, -1, -3, 2001, 2025, 2048, LEAST, MOST}) {
            due(n + "/" + n, x.size(n, n), NO);
            due(n + "/1200", x.size(n, 1200), NO);
            due("1200/" + n, x.size(1200, n), NO);
        }
    }

    /** Of primes 2, 3, 5 alone. */
    static void promise05OtherPrimes() {
        SinkingChoir x = new SinkingChoir();
        for (int n : new int[] {7, 14, 21, 35, 121, 1997}) {
            due(n + "/" + n, x.size(n, n), NO);
            due(n + "/5", x.size(n, 5), NO);
            due("5/" + n, x.size(5, n), NO);
        }
    }

    /** The SIZE from -3000000 to 3000000. */
    static void promise05SizeTo3000000() {
        SinkingChoir x = new SinkingChoir();
        due("45/8", x.size(45, 8), 2990224);
        due("8/45", x.size(8, 45), -2990224);
        due("256/45", x.size(256, 45), NO);
        due("45/256", x.size(45, 256), NO);
        due("729/128", x.size(729, 128), NO);
        due("2000/1", x.size(2000, 1), NO);
    }

    // ---- 6: link

    /** A LINK of a BEAT (not the first): no such BEAT. */
    static void promise06NoSuchBeat() {
        SinkingChoir x = opposed("3/2", "1/1");
        for (int b : new int[] {0, -1, 24, LEAST, MOST}) {
            no("beat " + b, x.link(b, NONE));
            no("beat " + b, x.link(b, 0));
        }
        yes("the second", x.link(1, 0));
        yes("the last", x.link(23, 1));
        due("count(4)", x.count(4), 2);
    }

    /** A VOICE whose NOTE is HELD there: the same KEY in the BEAT before. */
    static void promise06NotHeld() {
        SinkingChoir x = new SinkingChoir();
        put(x, 0, "9:1/1 - 9:1/1 10:1/1 10:3/2 -");
        put(x, 1, "9:1/1 9:1/1 - - - 9:1/1");
        no("silent there", x.link(1, 0));
        no("silent in the beat before", x.link(2, 0));
        no("another key in the beat before", x.link(3, 0));
        yes("held", x.link(4, 0));
        no("silent there", x.link(5, 0));
        no("silent for long", x.link(5, 1));
        yes("held", x.link(1, 1));
        for (int v : new int[] {2, 5, 6, -2, LEAST, MOST}) {
            no("voice " + v, x.link(1, v));
        }
        due("refused ones leave it", x.keynote(1, 4), 1);
    }

    /** None: always, where there is such a BEAT, without a note too, and once more. */
    static void promise06None() {
        SinkingChoir x = opposed("3/2", "1/1");
        yes("voice", x.link(1, 0));
        yes("the same", x.link(1, 0));
        yes("another", x.link(1, 1));
        due("one of a beat", x.count(4), 1);
        due("the other leads", x.keynote(1, 0), -FIFTH);
        yes("none", x.link(1, NONE));
        yes("none again", x.link(1, NONE));
        due("count(4)", x.count(4), 0);
        SinkingChoir y = new SinkingChoir();
        yes("no note", y.link(23, NONE));
    }

    /** All BEATS have a LINK: full. */
    static void promise06AllLinks() {
        SinkingChoir x = opposed("3/2", "4/3");
        linkAll(x, 0, 0);
        due("count(4)", x.count(4), 23);
        due("there and back", x.keynote(22, 0), 0);
        due("there", x.keynote(23, 0), FIFTH - 498045);
    }

    // ---- 7: keynote

    /** Of a BEAT, what 0 to 6; -1000000000 for others. */
    static void promise07Others() {
        SinkingChoir x = opposed("3/2", "4/3");
        for (int b : new int[] {-1, 24, LEAST, MOST}) {
            for (int what = 0; what < 7; what++) {
                due("beat " + b, x.keynote(b, what), NO);
            }
        }
        for (int what : new int[] {-1, 7, LEAST, MOST}) {
            due("what " + what, x.keynote(0, what), NO);
            due("what " + what, x.keynote(23, what), NO);
        }
    }

    /** THE KEYNOTE of BEAT 0 is 0; without a LINK as it was, behind the last NOTE too. */
    static void promise07Beat0() {
        SinkingChoir x = new SinkingChoir();
        put(x, 4, "9:5/4 9:3/2 9:1/1 9:1/1");
        x.link(1, 4);
        int[] due = {0, 0, 0, 0, NONE, 0, 0};
        for (int what = 0; what < 7; what++) {
            due("beat 0, what " + what, x.keynote(0, what), due[what]);
        }
        due("linked", x.keynote(1, 0), 386314 - FIFTH);
        due("as it was", x.keynote(2, 0), 386314 - FIFTH);
        due("held and torn, no link", x.keynote(2, 6), 1 << 4);
        due("held and not torn, no link", x.keynote(3, 6), 0);
        due("behind the last note", x.keynote(23, 0), 386314 - FIFTH);
        due("exponent of 2 behind it", x.keynote(23, 1), -1);
        due("exponent of 3 behind it", x.keynote(23, 2), -1);
        due("exponent of 5 behind it", x.keynote(23, 3), 1);
    }

    /** It is kept by exponents of 2, 3, 5: as far up and down as links can lead. */
    static void promise07FarthestExponents() {
        SinkingChoir x = opposed("1024/729", "729/1024");
        linkAll(x, 0, 1);
        due("up", x.keynote(23, 1), 460);
        due("down", x.keynote(23, 2), -276);
        due("none", x.keynote(23, 3), 0);
        due("mills", x.keynote(23, 0), 46 * 588270);
        linkAll(x, 1, 0);
        due("down", x.keynote(23, 1), -460);
        due("up", x.keynote(23, 2), 276);
        due("none", x.keynote(23, 3), 0);
        due("mills", x.keynote(23, 0), -46 * 588270);
        SinkingChoir y = opposed("625/576", "576/625");
        linkAll(y, 0, 1);
        due("of 2", y.keynote(23, 1), -276);
        due("of 3", y.keynote(23, 2), -92);
        due("of 5", y.keynote(23, 3), 184);
        linkAll(y, 1, 0);
        due("of 2", y.keynote(23, 1), 276);
        due("of 3", y.keynote(23, 2), 92);
        due("of 5", y.keynote(23, 3), -184);
        due("mills", y.keynote(23, 0), -46 * 141346);
    }

    /** The greatest in MILLS. */
    static void promise07FarthestMills() {
        SinkingChoir x = opposed("45/8", "8/45");
        linkAll(x, 0, 1);
        due("up", x.keynote(23, 0), 137550304);
        linkAll(x, 1, 0);
        due("down", x.keynote(23, 0), -137550304);
    }

    /** 5 VOICES whose NOTES are HELD (bits), 6 those that are TORN (bits). */
    static void promise07Bits() {
        SinkingChoir x = torn(2, 1);
        due("none in beat 0", x.keynote(0, 5), 0);
        due("all are held", x.keynote(1, 5), 63);
        due("all are torn", x.keynote(1, 6), 63);
        x.link(1, 0);
        due("but the link", x.keynote(1, 6), 62);
        x.link(1, 5);
        due("the five go together", x.keynote(1, 6), 1);
        due("behind", x.keynote(3, 5), 0);
    }

    // ---- 8: torn

    /** Of so much it is TORN, below 0, too; 0: not. */
    static void promise08Farthest() {
        SinkingChoir x = opposed("45/8", "8/45");
        due("down", x.torn(0, 1), -5980448);
        due("up", x.torn(1, 1), 5980448);
        x.link(1, 0);
        due("not", x.torn(0, 1), 0);
        due("as far as can be", x.torn(1, 1), 11960896);
        x.link(1, 1);
        due("as far down as can be", x.torn(0, 1), -11960896);
        due("not", x.torn(1, 1), 0);
    }

    /** It is not HELD, no such ones. */
    static void promise08NotHeld() {
        SinkingChoir x = new SinkingChoir();
        put(x, 0, "9:1/1 - 9:1/1 10:1/1 10:1/1");
        put(x, 5, "9:1/1 9:1/1");
        due("first beat", x.torn(0, 0), NO);
        due("silent", x.torn(0, 1), NO);
        due("silent in the beat before", x.torn(0, 2), NO);
        due("another key", x.torn(0, 3), NO);
        due("held", x.torn(0, 4), 0);
        due("silent behind", x.torn(0, 5), NO);
        due("voice 5", x.torn(5, 1), 0);
        for (int k : new int[] {-1, LEAST, MOST}) {
            due("voice " + k, x.torn(k, 1), NO);
            due("beat " + k, x.torn(5, k), NO);
        }
        due("voice 6", x.torn(6, 1), NO);
        due("beat 24", x.torn(5, 24), NO);
    }

    // ---- 9: sink

    /** THE KEYNOTE of the last BEAT that has a NOTE, whichever VOICE has it. */
    static void promise09LastBeatThatHasANote() {
        SinkingChoir x = new SinkingChoir();
        put(x, 0, "9:3/2 9:1/1");
        x.link(1, 0);
        due("beat", x.sink(5), 1);
        due("mills", x.sink(0), FIFTH);
        x.note(5, 23, 0, 1, 1);
        due("beat", x.sink(5), 23);
        due("mills", x.sink(0), FIFTH);
        due("of 2", x.sink(1), -1);
        due("of 3", x.sink(2), 1);
        due("of 5", x.sink(3), 0);
        x.silent(5, 23);
        x.silent(0, 1);
        due("beat", x.sink(5), 0);
        due("mills", x.sink(0), 0);
    }

    /** No NOTE is there, no such what. */
    static void promise09NoNote() {
        SinkingChoir x = new SinkingChoir();
        x.note(3, 7, 0, 1, 1);
        for (int what : new int[] {-1, 6, LEAST, MOST}) {
            due("what " + what, x.sink(what), NO);
        }
        x.silent(3, 7);
        for (int what = 0; what < 6; what++) {
            due("no note any more", x.sink(what), NO);
        }
    }

    /** FOULNESS: of all HELD NOTES how far each is TORN, together: as much as can be. */
    static void promise09MostFoulness() {
        SinkingChoir x = torn(23, 1);
        due("no links", x.sink(4), 6 * 23 * 5980448);
        linkAll(x, 0, 0);
        due("links of the one against five", x.sink(4), 5 * 23 * 11960896);
        linkAll(x, 5, 1);
        due("links of the five", x.sink(4), 23 * 11960896);
        due("least of all that end as they began", x.way(NONE), 22 * 11960896 + 6 * 5980448);
    }

    // ---- 10: way

    /** No such what, no NOTE. */
    static void promise10NoSuchWhat() {
        SinkingChoir x = new SinkingChoir();
        due("no note", x.way(NONE), NO);
        due("no note", x.way(1), NO);
        x = twins();
        for (int what : new int[] {0, -2, 24, LEAST, MOST}) {
            due("what " + what, x.way(what), NO);
        }
        due("no link there", x.way(3), NONE);
        due("no link there", x.way(23), NONE);
    }

    /** One BEAT alone: the row of no LINKS. */
    static void promise10OneNote() {
        SinkingChoir x = new SinkingChoir();
        x.note(5, 0, 60, 8, 45);
        due("foulness", x.way(NONE), 0);
        due("link", x.way(1), NONE);
        due("link", x.way(23), NONE);
        x.note(5, 23, 60, 45, 8);
        due("the last beat alone", x.way(NONE), 0);
    }

    /** Of like ones the least row of LINKS (none is -1), by BEATS. */
    static void promise10LeastRow() {
        SinkingChoir x = twins();
        due("foulness", x.way(NONE), 0);
        due("the lesser voice", x.way(1), 2);
        due("the lesser voice", x.way(2), 2);
        SinkingChoir y = new SinkingChoir();
        put(y, 0, "9:5/4 9:5/4 9:5/4");
        y.link(1, 0);
        due("foulness", y.way(NONE), 0);
        due("none is less than voice 0", y.way(1), NONE);
        due("none is less than voice 0", y.way(2), NONE);
    }

    /** By BEATS: what an earlier BEAT has goes ahead of what a later one has. */
    static void promise10RowByBeats() {
        SinkingChoir x = new SinkingChoir();
        put(x, 0, "9:1/1 9:3/2 9:3/2 9:1/1 9:1/1 9:3/2");
        put(x, 1, "20:2/1 20:2/1 20:2/1 20:2/1 20:2/1 20:2/1");
        due("as foul as without links", x.way(NONE), 3 * FIFTH);
        for (int b = 1; b < 6; b++) {
            due("none each time", x.way(b), NONE);
        }
        SinkingChoir y = twins();
        put(y, 2, "12:1/1 12:3/2 12:1/1 12:3/2");
        put(y, 4, "24:1/1 24:3/2 24:1/1 24:3/2");
        due("one of three steps is torn", y.way(NONE), 2 * FIFTH);
        due("the first one", y.way(1), NONE);
        due("not the others", y.way(2), 2);
        due("not the others", y.way(3), 2);
    }

    /** None is told if in some BEAT there could be more than 300 KEYNOTES by exponents: 300 are told. */
    static void promise10ThreeHundredKeynotes() {
        SinkingChoir x = threeHundred();
        due("300", x.way(NONE), FIFTH + 386314);
        due("link", x.way(20), 0);
        due("link", x.way(3), NONE);
        x.note(0, 21, 5, 3, 2);
        due("330", x.way(NONE), -2);
        due("330", x.way(20), -2);
        due("no such what", x.way(0), NO);
        due("no such what", x.way(24), NO);
    }

    static void promise10ThreeHundredAndOneKeynotes() {
        SinkingChoir x = threeHundredAndOne();
        due("301", x.way(NONE), -2);
        due("301", x.way(13), -2);
        due("301", x.way(23), -2);
        x.silent(4, 13);
        due("258", x.way(NONE) >= 0 ? 1 : 0, 1);
        due("told then", x.way(23), NONE);
    }

    // ---- 11: change

    /** As way(): no such what, no NOTE. */
    static void promise11NoSuchWhat() {
        SinkingChoir x = new SinkingChoir();
        due("no note", x.change(NONE), NO);
        due("no note", x.change(23), NO);
        x = twins();
        for (int what : new int[] {0, -2, 24, LEAST, MOST}) {
            due("what " + what, x.change(what), NO);
        }
        due("no link there", x.change(3), NONE);
        due("no link there", x.change(23), NONE);
    }

    /** In the fewest BEATS: none if it ends as it began, whatever its FOULNESS. */
    static void promise11NothingToChange() {
        SinkingChoir x = twins();
        due("no links", x.change(NONE), 0);
        due("as told", x.change(1), NONE);
        x.link(1, 4);
        x.link(2, 2);
        due("links", x.change(NONE), 0);
        due("as told", x.change(1), 4);
        due("as told", x.change(2), 2);
        SinkingChoir y = new SinkingChoir();
        put(y, 3, "9:1/1 9:1/1");
        y.link(1, 3);
        due("a link that leads nowhere", y.change(NONE), 0);
        due("stays as told", y.change(1), 3);
    }

    /** Of like ones the least row. */
    static void promise11LeastRow() {
        SinkingChoir x = twins();
        x.link(1, 4);
        due("one beat", x.change(NONE), 1);
        due("rather the first one away than the second one told", x.change(1), NONE);
        due("the second as told", x.change(2), NONE);
        x = twins();
        x.link(2, 4);
        due("one beat", x.change(NONE), 1);
        due("the first as told is less", x.change(1), NONE);
        due("the second one away", x.change(2), NONE);
    }

    /** LINKS that differ from those told: another VOICE counts as one change. */
    static void promise11AllChange() {
        SinkingChoir x = opposed("3/2", "4/3");
        linkAll(x, 0, 1);
        due("eleven turned and one away", x.change(NONE), 12);
        due("one away first", x.change(1), NONE);
        for (int b = 2; b < 24; b++) {
            due("those of voice 1 turned to voice 0", x.change(b), 0);
        }
    }

    /** More than 300 KEYNOTES, as for THE WAY. */
    static void promise11ThreeHundredKeynotes() {
        SinkingChoir x = threeHundred();
        x.link(3, 0);
        due("300", x.change(NONE), 1);
        due("300", x.change(3), NONE);
        due("301", threeHundredAndOne().change(NONE), -2);
        due("301", threeHundredAndOne().change(13), -2);
    }

    // ---- 12: bounded

    /** So much FOULNESS (0 to 100000000). */
    static void promise12FoulnessTo100000000() {
        SinkingChoir x = twins();
        due("0", x.bounded(0), 0);
        due("100000000", x.bounded(100000000), 0);
        for (int foulness : new int[] {-1, 100000001, LEAST, MOST}) {
            due("foulness " + foulness, x.bounded(foulness), NO);
        }
        due("no note", new SinkingChoir().bounded(0), NO);
    }

    /** FOULNESS that is not above so much: as much is enough, and one less is not. */
    static void promise12NotAbove() {
        SinkingChoir x = new SinkingChoir();
        put(x, 0, "9:5/3 9:27/16");
        due("pure", x.bounded(0), -21506);
        due("one too few", x.bounded(21505), -21506);
        due("as much", x.bounded(21506), 0);
    }

    /** None is there: all are fouler, within the greatest bound too. */
    static void promise12NoneIsThere() {
        SinkingChoir x = torn(2, 3);
        due("as much as two beats' tearing", x.bounded(71765376), 0);
        due("one too few", x.bounded(71765375), NO);
        due("fouler than the greatest bound", torn(3, 3).bounded(100000000), NO);
    }

    /** Of two that beneath 0: one link leads so far away, and one that is as foul as none twice as far back. */
    static void promise12OfTwoThatBeneath0() {
        SinkingChoir x = new SinkingChoir();
        put(x, 0, "9:9/8 9:1/1");
        put(x, 1, "- 20:1/1 20:81/64");
        put(x, 2, "- 30:1/1 30:1/1");
        due("up first", x.bounded(407820), -203910);
        due("less than any", x.bounded(407819), NO);
        SinkingChoir y = new SinkingChoir();
        put(y, 3, "9:1/1 9:9/8");
        put(y, 4, "- 20:81/64 20:1/1");
        put(y, 5, "- 30:1/1 30:1/1");
        due("down first", y.bounded(407820), -203910);
        SinkingChoir w = new SinkingChoir();
        put(w, 0, "9:4/3 9:1/1");
        put(w, 1, "- 20:1/1 20:16/9");
        put(w, 2, "- 30:1/1 30:1/1");
        due("by fourths, up first", w.bounded(996090), -498045);
        SinkingChoir z = new SinkingChoir();
        put(z, 0, "9:9/8 9:1/1");
        due("one alone, above 0", z.bounded(203909), 203910);
        due("that of none is nearer", z.bounded(203910), 0);
    }

    /** None is told, as for THE WAY. */
    static void promise12ThreeHundredKeynotes() {
        due("300", threeHundred().bounded(100000000), 0);
        due("301", threeHundredAndOne().bounded(100000000), NO);
    }

    public static void main(String[] args) {
        runAll(EdgesOfThePieceTest.class, 1, 12);
    }
}
