import java.util.List;
import java.util.function.Consumer;

/** A call that is refused (NONE, false) changes nothing but the tape, where it is told; nor does one that asks. */
public final class EdgesOfRefusalTest extends Edges {

    /** A choir to which something of each kind is told. */
    private static SinkingChoir rich() {
        SinkingChoir x = new SinkingChoir();
        put(x, 0, "12:1/1 12:3/2 14:9/8 - 12:1/1");
        put(x, 1, "19:3/2 19:40/27 - 19:3/2 19:3/2");
        x.link(1, 0);
        x.link(4, 1);
        x.breath(1, 1, true);
        x.singer(0, 9, 4, 0);
        x.singer(1, 3, 2, 1);
        x.singer(0, 5, 1, 0);
        x.table(0, 40);
        x.table(7, -300);
        x.seed(77);
        x.blown(900);
        x.given(8);
        tell(x, "p2(i>0);s3(1=1);t1(r=1);k1(1=1);dx-50(1=1)");
        for (int b = 0; b < 5; b++) {
            x.tape(1, b, 1900000 + 1000 * b);
        }
        x.feed(1, 2, 3, 4, 5);
        return x;
    }

    /** What can be seen of it by asking, but for the bytes of the tape: some 120 calls. */
    private static String seen(SinkingChoir x) {
        StringBuilder s = new StringBuilder();
        for (int what = 0; what < 14; what++) {
            s.append(x.count(what)).append(' ');
        }
        for (int b = 0; b < 6; b++) {
            s.append(x.keynote(b, 0)).append(' ').append(x.keynote(b, 4)).append(' ').append(x.keynote(b, 6)).append(' ');
            s.append(x.torn(0, b)).append(' ').append(x.torn(1, b)).append(' ').append(x.beat(b, 3)).append(' ');
            s.append(x.way(b == 0 ? NONE : b)).append(' ').append(x.change(b == 0 ? NONE : b)).append(' ');
            for (int i = 0; i < 4; i++) {
                s.append(x.pitch(i, b)).append(' ');
            }
        }
        for (int what = 0; what < 5; what++) {
            s.append(x.sink(what)).append(' ').append(x.sunk(what)).append(' ').append(x.fit(1, what % 4)).append(' ');
            s.append(x.standing(what - 1)).append(' ').append(x.mind(3, 5, what % 3)).append(' ');
        }
        s.append(x.leader(1, 0)).append(' ').append(x.leader(2, 1)).append(' ').append(x.knows()).append(' ');
        s.append(x.bounded(21506)).append(' ').append(x.hears(0, 1)).append(' ').append(x.worst());
        return s.toString();
    }

    private static void changeNothing(List<Consumer<SinkingChoir>> calls) {
        for (int k = 0; k < calls.size(); k++) {
            SinkingChoir x = rich();
            String before = seen(x);
            calls.get(k).accept(x);
            due("what is seen after call " + k, seen(x), before);
            due("the tape after call " + k, x.check(1), 0);
        }
    }

    static void promise02RefusedChangesNothing() {
        changeNothing(List.of(x -> x.note(6, 1, 20, 1, 1), x -> x.note(0, 24, 20, 1, 1), x -> x.note(0, 1, 61, 1, 1),
            x -> x.note(0, 1, -1, 1, 1), x -> x.note(0, 1, 20, 7, 4), x -> x.note(0, 1, 20, 1, 2001),
            x -> x.note(0, 1, 20, 256, 45), x -> x.note(-1, 1, 20, 1, 1), x -> x.note(0, -1, 20, 1, 1)));
    }

    static void promise03RefusedChangesNothing() {
        changeNothing(List.of(x -> x.silent(0, 3), x -> x.silent(1, 2), x -> x.silent(5, 0), x -> x.silent(-1, 1),
            x -> x.silent(6, 1), x -> x.silent(0, -1), x -> x.silent(0, 24)));
    }

    static void promise04RefusedChangesNothing() {
        changeNothing(List.of(x -> x.breath(1, 1, true), x -> x.breath(1, 0, false), x -> x.breath(0, 24, true),
            x -> x.breath(6, 1, true), x -> x.breath(-1, 1, true), x -> x.breath(0, -1, true)));
    }

    static void promise06RefusedChangesNothing() {
        changeNothing(List.of(x -> x.link(0, NONE), x -> x.link(24, NONE), x -> x.link(1, 2), x -> x.link(2, 0),
            x -> x.link(4, 0), x -> x.link(1, 6), x -> x.link(1, -2), x -> x.link(-1, 0)));
    }

    static void promise13RefusedChangesNothing() {
        changeNothing(List.of(x -> x.singer(6, 0, 1, 0), x -> x.singer(-1, 0, 1, 0), x -> x.singer(0, 16, 1, 0),
            x -> x.singer(0, -1, 1, 0), x -> x.singer(0, 0, 0, 0), x -> x.singer(0, 0, 10, 0),
            x -> x.singer(0, 0, 1, 2), x -> x.singer(0, 0, 1, -1)));
        SinkingChoir full = unison(8, 2);
        String before = seen(full);
        due("a ninth", full.singer(0, 0, 1, 0), NONE);
        due("what is seen after it", seen(full), before);
    }

    static void promise14RefusedChangesNothing() {
        changeNothing(List.of(x -> x.place(0, 16), x -> x.place(0, -1), x -> x.place(3, 0), x -> x.place(-1, 0)));
    }

    static void promise15RefusedChangesNothing() {
        changeNothing(List.of(x -> x.table(12, 5), x -> x.table(-1, 5), x -> x.table(0, 60001), x -> x.table(0, -60001)));
    }

    static void promise16RefusedChangesNothing() {
        changeNothing(List.of(x -> x.seed(-1), x -> x.seed(65536), x -> x.seed(LEAST), x -> x.seed(MOST)));
    }

    static void promise17RefusedChangesNothing() {
        changeNothing(List.of(x -> x.blown(200001), x -> x.blown(-200001), x -> x.blown(LEAST), x -> x.blown(MOST)));
    }

    static void promise18RefusedChangesNothing() {
        changeNothing(List.of(x -> x.given(-1), x -> x.given(1 << 24), x -> x.given(LEAST), x -> x.given(MOST)));
    }

    /** NONE if that would be more than 220: the tape is as it was. */
    static void promise19RefusedChangesNothing() {
        SinkingChoir x = rich();
        for (int k = 1; k < 11; k++) {
            x.feed(k, k, k, k, k);
        }
        String before = seen(x);
        due("full", x.feed(9, 9, 9, 9, 9), NONE);
        due("what is seen after it", seen(x), before);
        SinkingChoir y = lone();
        feed(y, "d1(1=1)");
        for (int k = 1; k < 11; k++) {
            y.feed(0, 0, 0, 0, 0);
        }
        due("full", y.feed(0, 0, 0, 0, 0), NONE);
        due("the text is there", y.text(7), 1);
    }

    /** NONE: the tape stays; a FAULT: the TEXT before stays, and the tape is empty. */
    static void promise20RefusedChangesNothing() {
        changeNothing(List.of(x -> x.text(0), x -> x.text(21), x -> x.text(201), x -> x.text(-1), x -> x.text(LEAST),
            x -> x.text(MOST)));
        SinkingChoir x = rich();
        x.check(0);
        String before = seen(x);
        due("fault", tell(x, "p1(1=1);s2(1=1);t3(1=1);k4(1=1);d5(1=1);q"), -1040);
        due("what is seen after a fault", seen(x), before);
        due("once more", tell(x, "d5(1=1)d"), -1007);
        due("what is seen after a fault", seen(x), before);
    }

    static void promise29RefusedChangesNothing() {
        changeNothing(List.of(x -> x.tape(1, 24, 5), x -> x.tape(1, -1, 5), x -> x.tape(3, 0, 5), x -> x.tape(-1, 0, 5),
            x -> x.tape(1, 0, 10000001), x -> x.tape(1, 0, -10000001)));
    }

    /** -2: the tape stays; else it is empty, and nothing besides has changed. */
    static void promise32RefusedChangesNothing() {
        changeNothing(List.of(x -> x.check(2), x -> x.check(-1), x -> x.check(LEAST), x -> x.check(MOST)));
        SinkingChoir x = rich();
        x.check(0);
        String before = seen(x);
        x.feed(1, 2, 3, 4, 5);
        due("wrong", x.check(1), 0);
        due("what is seen after it", seen(x), before);
    }

    /** What asks, with right arguments and with wrong ones, changes nothing. */
    static void promise33AskingChangesNothing() {
        changeNothing(List.of(x -> x.size(3, 2), x -> x.keynote(1, 1), x -> x.keynote(24, 1), x -> x.torn(1, 1),
            x -> x.sink(0), x -> x.way(NONE), x -> x.way(1), x -> x.change(1), x -> x.bounded(0), x -> x.bounded(-1)));
        changeNothing(List.of(x -> x.pitch(2, 4), x -> x.pitch(8, 4), x -> x.beat(4, 0), x -> x.sunk(3), x -> x.sunk(9),
            x -> x.hears(0, 1), x -> x.hears(1, 1), x -> x.standing(0), x -> x.standing(3), x -> x.leader(3, 0)));
        changeNothing(List.of(x -> x.leader(0, 0), x -> x.worst(), x -> x.knows(), x -> x.fit(0, 1), x -> x.fit(1, 3),
            x -> x.fit(3, 0), x -> x.mind(9, 9, 2), x -> x.mind(9, 101, 2), x -> x.count(5), x -> x.count(-1)));
    }

    public static void main(String[] args) {
        runAll(EdgesOfRefusalTest.class, 2, 4);
    }
}
