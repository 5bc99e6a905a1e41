import java.util.Arrays;

/** Promises 25 to 33, and what the Terms say of them: a test for each sentence that names an edge. */
public final class EdgesOfTheAskingTest extends Edges {

    /** One singer who drifts by so much with each note, in these beats. */
    private static SinkingChoir drifter(int mills, int... beats) {
        SinkingChoir x = new SinkingChoir();
        for (int b : beats) {
            x.note(0, b, 0, 1, 1);
        }
        x.singer(0, 0, 1, 0);
        tell(x, "s1(1=1);d0" + (mills < 0 ? "-" : "+") + Math.abs(mills) + "(1=1)");
        return x;
    }

    private static int[] beatsTo(int last) {
        int[] beats = new int[last + 1];
        for (int b = 0; b <= last; b++) {
            beats[b] = b;
        }
        return beats;
    }

    /** One singer of two beats whose SUNK is this. */
    private static SinkingChoir sunk(int mills) {
        SinkingChoir x = unison(1, 2);
        tell(x, "d0" + (mills < 0 ? "-" : "+") + Math.abs(mills) + "(b=1)");
        return x;
    }

    /** Three at places 0, 3 and 9, of whom the third follows as he hears; the others part by so much at the end. */
    private static SinkingChoir parted(int apart) {
        SinkingChoir x = unison(3, 3);
        x.place(0, 9);
        x.place(1, 3);
        x.place(2, 0);
        String up = apart < 0 ? "0-" + -apart : "0+" + apart;
        String down = apart < 0 ? "0+" + -apart : "0-" + apart;
        tell(x, "p1(i=2);d700(b=1&i=0);d10000(b=1&i=2&n=4);d" + up + "(b=2&i=0);d" + down + "(b=2&i=1)");
        return x;
    }

    private static void standing(String of, SinkingChoir x, long... due) {
        due(of + ": sunk", x.standing(NONE), due[0]);
        due(of + ": foul", x.standing(8), due[1]);
        for (int i = 2; i < due.length; i++) {
            due(of + ": place of " + (i - 2), x.standing(i - 2), due[i]);
        }
    }

    // ---- 25: standing

    /** Nobody has a NOTE, no such what. */
    static void promise25NobodyHasANote() {
        SinkingChoir x = new SinkingChoir();
        x.note(0, 0, 0, 1, 1);
        due("no singers", x.standing(NONE), NO);
        x.singer(1, 4, 1, 0);
        for (int what = -2; what < 10; what++) {
            due("nobody, what " + what, x.standing(what), NO);
        }
        x.note(1, 9, 0, 1, 1);
        standing("one", x, 0, 0, 4);
        for (int what : new int[] {1, 7, 9, -2, 10, LEAST, MOST}) {
            due("what " + what, x.standing(what), NO);
        }
    }

    /** 6 SINGERS at most; -2000000000: more than 6. */
    static void promise25SixSingers() {
        SinkingChoir x = unison(6, 2);
        int[] places = {9, 3, 3, 0, 15, 1};
        for (int i = 0; i < 6; i++) {
            x.place(i, places[i]);
        }
        standing("six", x, 0, 0, 0, 1, 3, 3, 9, 15);
        due("no sixth", x.standing(6), NO);
        x.singer(5, 0, 1, 0);
        for (int what = -1; what < 7; what++) {
            due("seven", x.standing(what), -2000000000);
        }
        due("eight", x.singer(5, 0, 1, 0), 7);
        due("eight", x.standing(7), -2000000000);
        due("eight", x.standing(8), -2000000000);
        due("places stay", x.count(10), 9);
    }

    /** Of all ways to put SINGERS to the PLACES that they have: none is used twice or left. */
    static void promise25ThePlacesThatTheyHave() {
        SinkingChoir x = unison(2, 2);
        x.place(0, 15);
        x.place(1, 7);
        standing("least row", x, 0, 0, 7, 15);
        x.place(1, 15);
        standing("two have one", x, 0, 0, 15, 15);
        due("they stay where they are", x.count(11), 15);
    }

    /** That by which SUNK is nearest to 0, above or beneath; of like ones the least row of PLACES, by SINGERS. */
    static void promise25NearestTo0() {
        standing("above 0 in the least row", parted(2100), 300, 1400 + 8400, 0, 9, 3);
        standing("beneath 0 in the least row", parted(-2100), -300, 1400 + 8400, 0, 9, 3);
    }

    /** Of like ones of least FOUL of all BEATS together. */
    static void promise25LeastFoul() {
        SinkingChoir x = parted(2100);
        tell(x, "p1(i=2);d700(b=1&i=0);d10000(b=1&i=2);d2100(b=2&i=0);d0-2100(b=2&i=1)");
        standing("less foul", x, -300, 20400 + 8400, 9, 0, 3);
        tell(x, "p1(i=2);d700(b=1&i=0);d0-10000(b=1&i=2);d2100(b=2&i=0);d0-2100(b=2&i=1)");
        standing("less foul", x, 300, 20400 + 8400, 0, 9, 3);
    }

    /** Nearer by 1 is nearer. */
    static void promise25NearerBy1() {
        SinkingChoir x = parted(0);
        tell(x, "p1(i=2);d2(b=2&i=1)");
        standing("the least row has 1", x, 0, 4, 0, 9, 3);
    }

    /** Of all ways: the last of 720, too. */
    static void promise25TheLastOf720() {
        SinkingChoir x = unison(6, 2);
        for (int i = 0; i < 6; i++) {
            x.place(i, i == 5 ? 14 : 3 * i);
        }
        tell(x, "p1(i=2|i=3|i=5);d7000(b=1&i=1);d119(b=1&i=4);d0-18168(b=1&i=5)");
        standing("in this alone 4375, 5125 and 1549 are followed", x, 0, 137726, 14, 12, 9, 6, 3, 0);
    }

    /** As they know, and by THE TABLE as it is told. */
    static void promise25AsIsTold() {
        SinkingChoir x = new SinkingChoir();
        put(x, 0, "0:1/1 1:1/1");
        x.singer(0, 5, 1, 1);
        x.singer(0, 4, 1, 0);
        x.table(0, 700);
        x.blown(50);
        tell(x, "k1(1=1);s1(i=1);d9(b=1&k=1)");
        standing("one knows, one goes by steps", x, (9 + 750 - 100000 - 1) / 2 - 25, 50 + 100009 - 750, 4, 5);
    }

    /** It is found anew after each call that changes what is sung. */
    static void promise25FoundAnew() {
        SinkingChoir x = parted(2100);
        standing("first", x, 300, 9800, 0, 9, 3);
        x.place(1, 15);
        standing("place: at 0 he hears neither 9 nor 15", x, 0, 1400 + 8400, 9, 15, 0);
        x.place(1, 3);
        tell(x, "d90(b=2)");
        standing("text", x, 90, 0, 0, 3, 9);
        x.table(0, 5);
        x.blown(40);
        tell(x, "t1(1=1);d10(b=2)");
        x.given(4);
        standing("given", x, -30, 0, 0, 3, 9);
        x.blown(50);
        standing("blown", x, -40, 0, 0, 3, 9);
        x.given(0);
        standing("given", x, 10, 0, 0, 3, 9);
        tell(x, "dx(b=2)");
        long luck = x.standing(NONE);
        x.seed(5);
        due("seed", x.standing(NONE) == luck ? 1 : 0, 0);
        tell(x, "dr*50+1(b=2)");
        x.breath(0, 2, true);
        standing("breath", x, 51, 0, 0, 3, 9);
        x.silent(0, 2);
        standing("silent", x, 0, 0, 0, 3, 9);
        x.note(0, 2, 0, 1, 1);
        standing("note", x, 51, 0, 0, 3, 9);
        x.singer(0, 1, 1, 0);
        standing("singer", x, 51, 0, 0, 1, 3, 9);
        tell(x, "s1(1=1)");
        x.note(0, 2, 1, 1, 1);
        x.note(0, 1, 1, 1, 1);
        standing("by steps", x, -99995, 0, 0, 1, 3, 9);
        x.table(1, 7);
        standing("table", x, -100002, 0, 0, 1, 3, 9);
    }

    // ---- 26: leader

    /** NONE: no such ones, nobody has a NOTE. */
    static void promise26NoSuchOnes() {
        SinkingChoir x = new SinkingChoir();
        x.note(0, 0, 0, 1, 1);
        x.note(0, 5, 0, 1, 1);
        due("nobody", x.leader(1, 0), NONE);
        x.singer(1, 0, 1, 0);
        due("nobody has a note", x.leader(1, 1), NONE);
        x.singer(0, 0, 1, 0);
        due("what 0", x.leader(1, 0), 2);
        due("what 1", x.leader(1, 1), 0);
        for (int n : new int[] {0, 4, -1, LEAST, MOST}) {
            due("n " + n, x.leader(n, 0), NONE);
            due("n " + n, x.leader(n, 1), NONE);
        }
        for (int what : new int[] {-1, 2, LEAST, MOST}) {
            due("what " + what, x.leader(1, what), NONE);
            due("what " + what, x.leader(3, what), NONE);
        }
    }

    /** -2: there are not so many. */
    static void promise26NotSoMany() {
        for (int n = 1; n <= 3; n++) {
            for (int last = 0; last < 4; last++) {
                SinkingChoir x = drifter(10, beatsTo(last));
                due(n + " up to beat " + last, x.leader(n, 0) == -2 ? 1 : 0, last < n ? 1 : 0);
                due(n + " up to beat " + last, x.leader(n, 1) == -2 ? 1 : 0, last < n ? 1 : 0);
            }
        }
        due("all of three", drifter(10, 0, 1, 2, 3).leader(3, 0), 14);
        due("all of three", drifter(10, 20, 21, 22, 23).leader(3, 0), 14 << 20);
        due("one beat at the end", drifter(10, 23).leader(1, 0), -2);
    }

    /** Behind the first up to the last in which a SINGER has a NOTE: not one that a VOICE without one has. */
    static void promise26UpToTheLastOfSingers() {
        SinkingChoir x = drifter(10, 4, 5);
        x.note(3, 0, 0, 1, 1);
        x.note(3, 23, 0, 1, 1);
        due("one", x.leader(1, 0), 1 << 5);
        due("two", x.leader(2, 0), -2);
        x.singer(3, 0, 1, 0);
        due("with its singer", x.leader(2, 1), 10);
    }

    /** By which the greatest of how far OFF any BEAT is is least; of like ones the least set. */
    static void promise26LeastSet() {
        int[] all = beatsTo(23);
        due("halves", drifter(1000, all).leader(1, 0), 1 << 12);
        due("halves", drifter(1000, all).leader(1, 1), 12000);
        due("thirds", drifter(1000, all).leader(2, 0), 1 << 8 | 1 << 16);
        due("quarters", drifter(1000, all).leader(3, 0), 1 << 6 | 1 << 12 | 1 << 18);
        due("quarters", drifter(1000, all).leader(3, 1), 6000);
        due("of 22 beats", drifter(1000, beatsTo(21)).leader(3, 0), 1 << 4 | 1 << 10 | 1 << 16);
        due("of 22 beats", drifter(1000, beatsTo(21)).leader(3, 1), 6000);
        due("nothing is off", drifter(0, all).leader(3, 0), 14);
        due("nothing is off", drifter(0, all).leader(2, 0), 6);
        due("nothing is off", drifter(0, all).leader(1, 0), 2);
        due("nothing is off", drifter(0, all).leader(1, 1), 0);
    }

    /** How far OFF: beneath as above. */
    static void promise26HowFarOff() {
        due("beneath", drifter(-1000, beatsTo(21)).leader(3, 0), 1 << 4 | 1 << 10 | 1 << 16);
        due("beneath", drifter(-1000, beatsTo(21)).leader(3, 1), 6000);
        SinkingChoir x = drifter(0, beatsTo(3));
        tell(x, "s1(1=1);d400(b=1);d0-1200(b=2)");
        due("given behind what sinks", x.leader(1, 0), 1 << 1);
        due("800 beneath", x.leader(1, 1), 800);
        due("once more behind it, or ahead: least set", x.leader(2, 0), 1 << 1 | 1 << 3);
    }

    /** The last BEAT is OFF, too, where it is given ahead of it. */
    static void promise26OffInTheLastBeat() {
        SinkingChoir x = drifter(0, 0, 1);
        tell(x, "s1(1=1);d5000(b=1)");
        due("set", x.leader(1, 0), 2);
        due("greatest", x.leader(1, 1), 5000);
        SinkingChoir y = drifter(0, beatsTo(4));
        tell(y, "s1(1=1);d300(b<2);d5000(b=4)");
        due("set", y.leader(1, 0), 1 << 2);
        due("greatest", y.leader(1, 1), 5000);
    }

    /** As they know, and by THE TABLE as it is told. */
    static void promise26AsIsTold() {
        SinkingChoir x = new SinkingChoir();
        put(x, 0, "0:1/1 1:16/15 0:1/1");
        x.singer(0, 0, 1, 1);
        x.table(1, 11731);
        tell(x, "s1(1=1);d0-60*k(b=0)");
        due("set", x.leader(1, 0), 2);
        due("off at first alone", x.leader(1, 1), 60);
        due("set", x.leader(2, 0), 6);
        tell(x, "s1(1=1);d0-60*k(b=0);d0-40*k(b=1);d0-110*k(b=2)");
        due("150 by the first, 110 by the second", x.leader(1, 0), 4);
        due("110", x.leader(1, 1), 110);
    }

    /** In place of those told; at the beginning what was blown is there all the same. */
    static void promise26InPlaceOfThoseTold() {
        SinkingChoir x = drifter(1000, beatsTo(3));
        x.given(1 | 1 << 1 | 1 << 3);
        x.blown(-900);
        due("set", x.leader(1, 0), 1 << 2);
        due("greatest", x.leader(1, 1), 2000);
        due("the given stay", x.count(7), 3);
        x.blown(-9000);
        due("the first beat can't be mended", x.leader(3, 1), 8000);
        due("least set", x.leader(3, 0), 14);
        due("least set", x.leader(1, 0), 2);
    }

    // ---- 27: worst

    /** NONE: no NOTE is there. */
    static void promise27NoNote() {
        SinkingChoir x = unison(3, 0);
        due("none", x.worst(), NONE);
        x.note(5, 23, 0, 1, 1);
        due("the last", x.worst(), 23);
        x.silent(5, 23);
        due("none any more", x.worst(), NONE);
        x.note(0, 0, 0, 1, 1);
        due("the first", x.worst(), 0);
    }

    /** The BEAT of the greatest; of like ones the first. */
    static void promise27TheFirstOfLikeOnes() {
        SinkingChoir x = new SinkingChoir();
        put(x, 0, "- - 0:1/1 0:1/1 0:1/1 0:1/1 0:1/1");
        due("nothing is foul: the first that has a note", x.worst(), 2);
        put(x, 1, "- - - 7:3/2 7:3/2 4:5/4 4:5/4");
        due("the first of the greatest", x.worst(), 5);
        x.table(4, -13686);
        due("the first of the greatest", x.worst(), 3);
        x.table(7, 1955);
        due("nothing is foul again", x.worst(), 2);
    }

    // ---- 28: knows

    /** Nobody has a NOTE. */
    static void promise28NobodyHasANote() {
        SinkingChoir x = new SinkingChoir();
        x.note(0, 0, 0, 1, 1);
        due("no singers", x.knows(), NO);
        x.singer(1, 0, 1, 1);
        due("no note", x.knows(), NO);
        x.note(1, 0, 0, 1, 1);
        due("one beat", x.knows(), 0);
    }

    /** SUNK less SUNK if nobody KNEW. */
    static void promise28IfNobodyKnew() {
        SinkingChoir x = unison(2, 2);
        tell(x, "k1(b=1);t1(b=0);d2*k-1(b=1&i=2)");
        x.blown(60);
        due("nobody knows", x.knows(), 0);
        x.singer(0, 0, 1, 1);
        due("sunk", x.sunk(0), (60 + 60 + 0 + 1) / 3 - 60);
        due("if nobody knew, by 59.67", x.knows(), -20 - (59 - 60));
        due("he knows all the same", x.pitch(2, 1), 1);
    }

    /** It is reckoned anew at each asking, by THE TABLE as it is told. */
    static void promise28ReckonedAnew() {
        SinkingChoir x = new SinkingChoir();
        put(x, 0, "0:1/1 1:16/15");
        x.singer(0, 0, 1, 1);
        tell(x, "s1(1=1);d100*k(b=1)");
        x.table(1, 731);
        due("at first", x.knows(), 100);
        due("again", x.knows(), 100);
        tell(x, "s1(1=1);d300*k(b=1)");
        due("another text", x.knows(), 300);
        tell(x, "k1(b=0)");
        x.blown(-40);
        due("another text", x.knows(), -40);
        due("sunk", x.sunk(0), -40);
    }

    // ---- 29: tape

    /** A pitch (-10000000 to 10000000). */
    static void promise29PitchTo10000000() {
        SinkingChoir x = lone();
        yes("most", x.tape(0, 0, 10000000));
        for (int pitch : new int[] {-10000001, 10000001, LEAST, MOST}) {
            no("pitch " + pitch, x.tape(0, 0, pitch));
        }
        due("differences", x.fit(0, 3), 10000000);
        yes("least", x.tape(0, 0, -10000000));
        x.blown(200000);
        due("differences", x.fit(0, 3), 10200000);
    }

    /** No such ones. */
    static void promise29NoSuchOnes() {
        SinkingChoir x = unison(8, 1);
        for (int k : new int[] {-1, LEAST, MOST}) {
            no("singer " + k, x.tape(k, 0, 0));
            no("beat " + k, x.tape(0, k, 0));
        }
        no("singer 8", x.tape(8, 0, 0));
        no("beat 24", x.tape(7, 24, 0));
        for (int i = 0; i < 8; i++) {
            due("nothing on it", x.fit(i, 0), -2);
            yes("first", x.tape(i, 0, i));
            yes("last, silent", x.tape(i, 23, i));
        }
        for (int i = 0; i < 8; i++) {
            due("each his own", x.fit(i, 3), i);
        }
    }

    // ---- 30: fit

    /** NONE: no such ones. */
    static void promise30NoSuchOnes() {
        SinkingChoir x = unison(2, 1);
        x.tape(1, 0, 5);
        for (int k : new int[] {-1, 4, LEAST, MOST}) {
            due("singer " + k, x.fit(k, 0), NONE);
            due("what " + k, x.fit(1, k), NONE);
            due("what " + k, x.fit(0, k), NONE);
        }
        due("singer 2", x.fit(2, 0), NONE);
        due("differences", x.fit(1, 3), 5);
    }

    /** -2: there is no such BEAT: with a NOTE and a pitch on the TAPE. */
    static void promise30NoSuchBeat() {
        SinkingChoir x = unison(1, 2);
        x.tape(0, 2, 0);
        for (int what = 0; what < 4; what++) {
            due("a pitch without a note", x.fit(0, what), -2);
        }
        x.note(0, 2, 0, 1, 1);
        due("both", x.fit(0, 3), 0);
        x.silent(0, 2);
        due("no note any more", x.fit(0, 3), -2);
        x.tape(0, 1, 0);
        due("both", x.fit(0, 3), 0);
    }

    /** Weights 0 to 3 each, not all 0; of like ones the least row p, s, t. */
    static void promise30Weights0To3() {
        SinkingChoir x = unison(2, 2);
        x.blown(4000);
        tell(x, "d4000(i=0&b=0)");
        x.tape(1, 0, 4000);
        fit("all alike: not all 0, and the least row", x, 0, 0, 0, 1, -2);
        x.tape(0, 0, 4000);
        fit("all alike: not all 0, and the least row", x, 0, 0, 0, 1, 0);
        x.tape(1, 0, 7000);
        fit("p and t", x, 1, 3, 0, 1, 0);
        x.tape(1, 0, 5000);
        fit("p and t", x, 1, 1, 0, 3, 0);
        x.tape(1, 0, 8000);
        fit("p alone", x, 1, 1, 0, 0, 0);
        x.tape(0, 0, 0);
        x.tape(0, 1, 3000);
        fit("s and t", x, 0, 0, 1, 3, 4000);
        x.tape(0, 1, 1000);
        fit("s and t", x, 0, 0, 3, 1, 4000);
        x.tape(0, 1, 0);
        fit("s alone", x, 0, 0, 1, 0, 4000);
    }

    private static void fit(String of, SinkingChoir x, int i, long... due) {
        for (int what = 0; what < 4; what++) {
            due(of + ", what " + what, x.fit(i, what), due[3] == -2 ? -2 : due[what]);
        }
    }

    /** None: s counts 0, though he has had a NOTE; k and d 0. */
    static void promise30NoPitchAhead() {
        SinkingChoir x = unison(1, 2);
        x.blown(4000);
        tell(x, "d0-4000(1=1);k9(1=1)");
        due("as he sang", x.pitch(0, 1), 0);
        x.tape(0, 1, 0);
        fit("by t alone", x, 0, 0, 0, 1, 4000);
    }

    /** k and d 0, though he knows and drifts. */
    static void promise30NeitherKNorD() {
        SinkingChoir x = new SinkingChoir();
        x.note(0, 0, 0, 1, 1);
        x.singer(0, 0, 1, 1);
        x.blown(600);
        tell(x, "k100(1=1);d900(1=1)");
        x.tape(0, 0, 600);
        fit("by t", x, 0, 0, 0, 1, 0);
    }

    /** The latest BEAT ahead in which he has a NOTE and it has a pitch. */
    static void promise30LatestBeatAhead() {
        SinkingChoir x = new SinkingChoir();
        put(x, 0, "0:1/1 - 0:3/2 0:3/2");
        x.singer(0, 0, 1, 0);
        x.tape(0, 0, 20);
        x.tape(0, 1, 9999);
        x.tape(0, 3, 20 + FIFTH);
        fit("over a silent one and one without a pitch", x, 0, 0, 1, 0, 20);
        x.tape(0, 2, 700000);
        x.tape(0, 3, 700000);
        fit("held behind a pitch", x, 0, 0, 1, 0, 20 + 20 + FIFTH - 700000);
    }

    /** HELD counts only if that is the BEAT before. */
    static void promise30HeldOnlyIfThatIsTheBeatBefore() {
        SinkingChoir x = new SinkingChoir();
        put(x, 0, "0:1/1 0:1/1 0:3/2");
        x.singer(0, 0, 1, 0);
        x.tape(0, 0, 0);
        x.tape(0, 2, FIFTH);
        fit("a step", x, 0, 0, 1, 0, 0);
        x.tape(0, 1, 0);
        fit("held", x, 0, 0, 0, 1, FIFTH);
        x.tape(0, 2, 0);
        fit("held", x, 0, 0, 0, 1, 0);
    }

    /** Nothing GIVEN changes it; THE TABLE is more by what was GIVEN all the same. */
    static void promise30NothingGivenChangesIt() {
        SinkingChoir x = unison(1, 2);
        x.blown(300);
        x.given(2);
        x.tape(0, 0, 300);
        x.tape(0, 1, 300);
        fit("s", x, 0, 0, 1, 0, 0);
        x.tape(0, 1, 0);
        fit("t", x, 0, 0, 0, 1, 0);
    }

    /** All others as they sang, whatever is on their TAPES. */
    static void promise30OthersAsTheySang() {
        SinkingChoir x = unison(2, 1);
        tell(x, "d77(i=0);d5(i=1)");
        x.tape(0, 0, -9000);
        x.tape(1, 0, 77);
        fit("p", x, 1, 1, 0, 0, 0);
        x.place(1, 8);
        fit("he hears nobody", x, 1, 0, 0, 1, 77);
    }

    // ---- 31: mind

    /** No such ones (a and b 0 to 100 each), nobody has a NOTE. */
    static void promise31NoSuchOnes() {
        SinkingChoir x = new SinkingChoir();
        x.note(0, 0, 0, 1, 1);
        due("nobody", x.mind(0, 0, 0), NONE);
        x.singer(1, 0, 1, 0);
        due("nobody has a note", x.mind(100, 100, 2), NONE);
        x.note(1, 0, 0, 1, 1);
        for (int what = 0; what < 3; what++) {
            due("least", x.mind(0, 0, what), 0);
            due("most", x.mind(100, 100, what), 0);
            for (int k : new int[] {-1, 101, LEAST, MOST}) {
                due("a " + k, x.mind(k, 0, what), NONE);
                due("b " + k, x.mind(0, k, what), NONE);
                due("what " + k, x.mind(0, 0, k), NONE);
            }
        }
        due("what 3", x.mind(1, 1, 3), NONE);
    }

    /** For each thousand of how far SUNK is from 0, rounded down. */
    static void promise31ThousandsOfSunk() {
        int[] mills = {0, 999, 1000, 1999, 2000, -1, -999, -1000, -1999, -2000, 20000, -20000};
        int[] due = {0, 0, 1, 1, 2, 0, 0, 1, 1, 2, 20, 20};
        for (int k = 0; k < mills.length; k++) {
            due("sunk " + mills[k], sunk(mills[k]).mind(1, 100, 0), due[k]);
            due("sunk " + mills[k], sunk(mills[k]).mind(100, 0, 0), 100 * due[k]);
            due("sunk " + mills[k], sunk(mills[k]).mind(0, 100, 0), 0);
        }
    }

    /** For each thousand of FOUL of all BEATS, rounded down (together, not each). */
    static void promise31ThousandsOfFoul() {
        SinkingChoir x = unison(2, 3);
        tell(x, "d333(i=0)");
        due("999", x.mind(0, 100, 0), 0);
        tell(x, "d334(i=0)");
        due("1002", x.mind(0, 100, 0), 100);
        tell(x, "d666(i=0)");
        due("1998", x.mind(100, 100, 0), 100);
        tell(x, "d667(i=0);d1(i=0&b=9)");
        due("2001", x.mind(100, 7, 0), 14);
        tell(x, "d999(i=0&b=2)");
        due("999 and off by 499", x.mind(100, 100, 0), 0);
        tell(x, "d2000(i=0&b=2)");
        due("2000 and off by 1000: each, together", x.mind(3, 10, 0), 23);
    }

    /** WISH: of so many TABLES' turns (0 to 11) that by which they mind least; of like ones the least. */
    static void promise31LeastTurn() {
        int[] told = {0, 1, 2, 11};
        int[] turns = {0, 0, 11, 2};
        for (int k = 0; k < told.length; k++) {
            SinkingChoir x = new SinkingChoir();
            put(x, 0, "0:1/1 1:16/15");
            x.singer(0, 0, 1, 0);
            tell(x, "s1(1=1)");
            x.table(told[k], told[k] == 0 ? -11731 : 11731);
            due("turn for " + told[k], x.mind(1, 0, 2), turns[k]);
            due("mind least", x.mind(1, 0, 1), 0);
        }
        SinkingChoir x = new SinkingChoir();
        put(x, 0, "0:1/1 1:16/15");
        x.singer(0, 0, 1, 0);
        tell(x, "s1(1=1)");
        due("all alike", x.mind(1, 0, 2), 0);
        due("all alike", x.mind(1, 0, 1), 11);
        x.table(5, 11731);
        due("the one", x.mind(1, 0, 2), 8);
        x.table(2, 11731);
        due("the lesser of two", x.mind(1, 0, 2), 8);
        x.table(10, 11731);
        due("the least of three", x.mind(1, 0, 2), 3);
        due("as it is told", x.mind(1, 0, 0), 11);
        due("nothing minded: the least", x.mind(0, 0, 2), 0);
    }

    /** The KEY's number modulo 12 less the turn is what is asked of THE TABLE: for OFF as for what is sung. */
    static void promise31AsIfToldFurther() {
        SinkingChoir x = new SinkingChoir();
        put(x, 0, "59:1/1 60:1/1");
        x.singer(0, 0, 1, 0);
        x.table(11, 1000);
        tell(x, "s1(1=1)");
        due("sunk", x.sunk(0), -99000);
        due("as it is", x.mind(1, 0, 0), 99);
        due("turned by 11 what is told is for 10, by 1 for 0", x.mind(1, 0, 2), 0);
        x.table(11, -1000);
        due("beneath", x.mind(1, 0, 0), 101);
        due("turned by 1: for 0", x.mind(1, 0, 2), 1);
        due("turned by 1: for 0", x.mind(1, 0, 1), 99);
        tell(x, "t1(1=1)");
        due("by the table nothing is off", x.mind(100, 0, 1), 0);
        due("by the table nothing is off", x.mind(100, 0, 2), 0);
    }

    /** As they know. */
    static void promise31AsTheyKnow() {
        SinkingChoir x = unison(1, 1);
        x.note(0, 1, 0, 1, 1);
        x.singer(0, 0, 1, 1);
        tell(x, "d5000*k(b=1)");
        due("sunk by 2500, foul by 5000", x.mind(1, 10, 0), 52);
        due("in all turns", x.mind(1, 10, 1), 52);
    }

    // ---- 32: check

    /** -2: it has not so many (the tape stays). */
    static void promise32NotSoMany() {
        SinkingChoir x = unison(1, 0);
        for (int n : new int[] {1, 2, -1, 19, 357913942, 715827883, LEAST, MOST}) {
            due("empty, n " + n, x.check(n), -2);
        }
        x.feed(1, 2, 3, 4, 5);
        for (int n : new int[] {2, 19, 357913942, 715827883, LEAST, MOST}) {
            due("five numbers, n " + n, x.check(n), -2);
        }
        due("the tape stays", x.count(1), 20);
        due("one three of them", x.check(1), 0);
        due("empty then", x.count(1), 0);
        for (int k = 0; k < 11; k++) {
            x.feed(1, 2, 3, 4, 5);
        }
        due("full, one too many", x.check(19), -2);
        due("the tape stays", x.count(1), 220);
        due("full", x.check(18), 0);
        due("empty then", x.count(1), 0);
    }

    /** By the first 3 n numbers (empty then): NONE: right; all NOTES sung, by SINGERS, then BEATS. */
    static void promise32Right() {
        SinkingChoir x = unison(2, 9);
        tell(x, "d7*b+i(1=1)");
        int[] numbers = new int[54];
        for (int k = 0; k < 18; k++) {
            numbers[3 * k] = k / 9;
            numbers[3 * k + 1] = k % 9;
            numbers[3 * k + 2] = 7 * (k % 9) + k / 9;
        }
        due("eighteen", check(x, numbers), NONE);
        due("empty then", x.count(1), 0);
        for (int k = 0; k < 54; k++) {
            int[] wrong = numbers.clone();
            wrong[k]++;
            due("wrong at " + k, check(x, wrong), k);
            wrong[53]++;
            due("the first of two", check(x, wrong), k);
        }
        due("one three too few", check(x, Arrays.copyOf(numbers, 51)), 51);
        due("all lacking", check(x), 0);
        due("no note", check(unison(1, 0)), NONE);
    }

    /** The place of the first number that is not so: one three too many, and a silent BEAT between. */
    static void promise32TooMany() {
        SinkingChoir x = new SinkingChoir();
        put(x, 3, "- 0:1/1 - 0:1/1");
        x.singer(0, 0, 1, 0);
        x.singer(3, 0, 1, 0);
        due("right", check(x, 1, 1, 0, 1, 3, 0), NONE);
        due("too many", check(x, 1, 1, 0, 1, 3, 0, 1, 5, 0), 6);
        due("too many, and one is wrong", check(x, 1, 1, 0, 1, 3, 9, 1, 5, 0), 5);
        due("too few, and one is wrong", check(x, 1, 1, 9), 2);
        due("too few", check(x, 1, 1, 0), 3);
        due("the silent beat", check(x, 1, 1, 0, 1, 2, 0), 4);
        due("the silent singer", check(x, 0, 1, 0, 1, 1, 0), 0);
        due("too many of nothing", check(unison(1, 0), 0, 0, 0), 0);
    }

    // ---- 33: count

    /** What 0 to 7, 10 + i; NONE for others (6 can be that). */
    static void promise33Others() {
        SinkingChoir x = unison(8, 1);
        for (int what : new int[] {-1, -2, 8, 9, 18, 19, 20, LEAST, LEAST + 10, LEAST + 17, MOST}) {
            due("what " + what, x.count(what), NONE);
        }
        for (int i = 0; i < 8; i++) {
            due("place of " + i, x.count(10 + i), i);
        }
        x.blown(-1);
        due("what was blown can be that", x.count(6), -1);
        due("no eighth", unison(7, 1).count(17), NONE);
        due("no first", new SinkingChoir().count(10), NONE);
    }

    /** All that it counts, at the most. */
    static void promise33Most() {
        SinkingChoir x = unison(8, 24);
        tell(x, "d1(b=1);".repeat(13) + "d1(b=1)");
        for (int k = 0; k < 11; k++) {
            x.feed(0, 0, 0, 0, 0);
        }
        for (int v = 0; v < 6; v++) {
            for (int b = 0; b < 24; b++) {
                x.note(v, b, 0, 1, 1);
            }
        }
        for (int b = 1; b < 24; b++) {
            x.link(b, 5);
        }
        x.seed(65535);
        x.blown(200000);
        x.given(16777215);
        x.place(7, 15);
        int[] due = {8, 220, 14, 144, 23, 65535, 200000, 24};
        for (int what = 0; what < 8; what++) {
            due("count(" + what + ")", x.count(what), due[what]);
        }
        due("count(17)", x.count(17), 15);
    }

    public static void main(String[] args) {
        runAll(EdgesOfTheAskingTest.class, 25, 33);
    }
}
