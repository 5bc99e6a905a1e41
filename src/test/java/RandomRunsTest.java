import java.nio.charset.StandardCharsets;
import java.util.ArrayList;
import java.util.List;
import java.util.Random;

/** Runs of calls by a seed, on the class and on the Model of the document: all answers must be the same. */
public final class RandomRunsTest {
    private static final String[] FRACTIONS = {"1/1", "3/2", "5/4", "4/3", "5/3", "9/8", "10/9", "2/1", "6/5", "8/5",
        "40/27", "27/20", "1/2", "15/8", "16/9", "81/64", "32/27", "2000/1", "4/1", "1/5", "25/24", "7/4", "125/64"};
    private static int wrong = 0;

    private final Random random;
    private final int seed;
    private final int voices;
    private final int beats;
    private final int fractions;
    private final SinkingChoir choir = new SinkingChoir();
    private final Model model = new Model();
    private final List<String> told = new ArrayList<>();
    private int calls = 0;

    private RandomRunsTest(int seed) {
        this.seed = seed;
        random = new Random(seed);
        voices = 1 + random.nextInt(6);
        beats = 2 + random.nextInt(random.nextInt(3) == 0 ? 22 : 7);
        fractions = 3 + random.nextInt(FRACTIONS.length - 3);
    }

    private int below(int n) {
        return random.nextInt(n);
    }

    /** Mostly one of the range, now and then one beside it. */
    private int about(int least, int most) {
        int dice = below(40);
        return dice == 0 ? least - 1 : dice == 1 ? most + 1 : dice == 2 ? least : dice == 3 ? most
            : least + below(most - least + 1);
    }

    private void due(String call, long got, long want) {
        calls++;
        told.add(call + " " + got);
        if (got != want) {
            wrong++;
            System.out.println("seed " + seed + ", call " + calls + ": " + call + " answered " + got + ", due is " + want);
        }
    }

    private void due(String call, boolean got, boolean want) {
        due(call, got ? 1 : 0, want ? 1 : 0);
    }

    // ---- texts by the grammar

    private String e(int depth) {
        StringBuilder s = new StringBuilder(factor(depth));
        for (int k = below(3); k > 0; k--) {
            s.append("+-*/%+-*".charAt(below(8))).append(factor(depth));
        }
        return s.toString();
    }

    private String factor(int depth) {
        int dice = below(10);
        if (dice == 0 && depth > 0) {
            return "[" + e(depth - 1) + "]";
        }
        if (dice < 6) {
            return String.valueOf("bvikfhjurnoxxo".charAt(below(14)));
        }
        return String.valueOf(below(dice == 9 ? 99999 : dice == 8 ? 120 : 5));
    }

    private String c(int depth) {
        StringBuilder s = new StringBuilder(piece(depth));
        for (int k = below(5) - 2; k > 0; k--) {
            s.append(below(2) == 0 ? '&' : '|').append(piece(depth));
        }
        return s.toString();
    }

    private String piece(int depth) {
        int dice = below(8);
        if (dice == 0 && depth > 0) {
            return "!" + piece(depth - 1);
        }
        if (dice == 1 && depth > 0) {
            return "(" + c(depth - 1) + ")";
        }
        return dice < 4 ? "1=1" : e(depth) + "<>=".charAt(below(3)) + e(depth);
    }

    private String text() {
        StringBuilder s = new StringBuilder();
        int depth = 1 + below(4);
        int clauses = 1 + below(below(6) == 0 ? 15 : 6);
        for (int k = 0; k < clauses; k++) {
            String clause = (k == 0 ? "" : ";") + "pstkdd".charAt(below(6)) + e(depth) + "(" + c(depth) + ")";
            if (s.length() + clause.length() <= 195) {
                s.append(clause);
            }
        }
        for (int k = below(3) == 0 ? 1 + below(2) : 0; k > 0; k--) {
            int at = below(s.length());
            char sign = ";()[]!|&<>=+-*/%09pstkdbx ~".charAt(below(27));
            int dice = below(3);
            if (dice == 0) {
                s.setCharAt(at, sign);
            } else if (dice == 1) {
                s.insert(at, sign);
            } else if (s.length() > 1) {
                s.deleteCharAt(at);
            }
        }
        return s.length() > 200 ? s.substring(0, 200) : s.toString();
    }

    private void feed(int... five) {
        int a = five[0];
        due("feed", choir.feed(a, five[1], five[2], five[3], five[4]), model.feed(five));
    }

    private void empty() {
        due("check(0)", choir.check(0), model.check(0));
    }

    private void tellText(String text) {
        empty();
        byte[] bytes = text.getBytes(StandardCharsets.ISO_8859_1);
        for (int from = 0; from < bytes.length; from += 20) {
            int[] five = new int[5];
            for (int k = 0; k < 20; k++) {
                int b = from + k < bytes.length ? bytes[from + k] & 255 : 32;
                five[k / 4] |= b << 24 - 8 * (k % 4);
            }
            feed(five);
        }
        due("text(" + text + ")", choir.text(bytes.length), model.text(bytes.length));
    }

    // ---- calls

    private void note() {
        String[] f = FRACTIONS[below(fractions)].split("/");
        int v = below(20) == 0 ? about(0, 5) : below(voices);
        int b = below(20) == 0 ? about(0, 23) : below(beats);
        int key = below(40) == 0 ? about(0, 60) : 20 + 5 * below(3);
        int n = Integer.parseInt(f[0]);
        int d = Integer.parseInt(f[1]);
        due("note(" + v + ", " + b + ", " + key + ", " + n + ", " + d + ")", choir.note(v, b, key, n, d),
            model.note(v, b, key, n, d));
    }

    private void piece() {
        int v = below(20) == 0 ? about(0, 5) : below(voices);
        int b = below(20) == 0 ? about(0, 23) : below(beats);
        switch (below(6)) {
            case 0 -> due("silent(" + v + ", " + b + ")", choir.silent(v, b), model.silent(v, b));
            case 1 -> {
                boolean is = below(2) == 0;
                due("breath(" + v + ", " + b + ", " + is + ")", choir.breath(v, b, is), model.breath(v, b, is));
            }
            case 2, 3 -> {
                int w = below(4) == 0 ? -1 : v;
                due("link(" + b + ", " + w + ")", choir.link(b, w), model.link(b, w));
            }
            default -> note();
        }
    }

    private void askPiece() {
        int v = below(20) == 0 ? about(0, 5) : below(voices);
        int b = below(20) == 0 ? about(0, 23) : below(beats);
        int what = about(0, 6);
        due("keynote(" + b + ", " + what + ")", choir.keynote(b, what), model.keynote(b, what));
        due("torn(" + v + ", " + b + ")", choir.torn(v, b), model.torn(v, b));
        what = about(0, 5);
        due("sink(" + what + ")", choir.sink(what), model.sink(what));
        int n = about(1, 100);
        int d = about(1, 100);
        due("size(" + n + ", " + d + ")", choir.size(n, d), model.size(n, d));
        what = below(24);
        due("count(" + what + ")", choir.count(what), model.count(what));
        due("worst()", choir.worst(), model.worst());
    }

    private void askWays() {
        List<int[]> rows = model.rows();
        if (rows == null) {
            return;
        }
        for (int what = -2; what <= beats; what++) {
            due("way(" + what + ")", choir.way(what), model.row(what, false, rows));
            due("change(" + what + ")", choir.change(what), model.row(what, true, rows));
        }
        for (int k = 0; k < 4; k++) {
            int foulness = k == 0 ? about(0, 100000000) : below(3) * 21506 + below(3) * 3000 + below(2) * 400000;
            due("bounded(" + foulness + ")", choir.bounded(foulness), model.bounded(foulness, rows));
        }
    }

    private void tell() {
        int i = about(0, Math.max(0, model.singers.size() - 1));
        switch (below(9)) {
            case 0, 1 -> {
                int v = below(voices);
                int place = about(0, below(3) == 0 ? 15 : 6);
                int loud = about(1, 9);
                int knows = about(0, 1);
                if (model.singers.size() < 5 || below(8) == 0) {
                    due("singer(" + v + ", " + place + ", " + loud + ", " + knows + ")",
                        choir.singer(v, place, loud, knows), model.singer(v, place, loud, knows));
                }
            }
            case 2 -> {
                int place = about(0, 15);
                due("place(" + i + ", " + place + ")", choir.place(i, place), model.place(i, place));
            }
            case 3 -> {
                int key = about(0, 11);
                int mills = about(-60000, 60000);
                due("table(" + key + ", " + mills + ")", choir.table(key, mills), model.table(key, mills));
            }
            case 4 -> {
                int x = about(0, 65535);
                due("seed(" + x + ")", choir.seed(x), model.seed(x));
            }
            case 5 -> {
                int mills = about(-200000, 200000);
                due("blown(" + mills + ")", choir.blown(mills), model.blown(mills));
            }
            case 6 -> {
                int set = about(0, 16777215) & about(-1, 16777215) & about(-1, 16777215);
                due("given(" + set + ")", choir.given(set), model.given(set));
            }
            default -> {
                int b = below(beats);
                int near = below(3) == 0 ? about(-10000000, 10000000)
                    : model.noteOf(i, b) == null ? 2500000 : model.pitch(i, b) + below(9000) - 4500;
                due("tape(" + i + ", " + b + ", " + near + ")", choir.tape(i, b, near), model.tape(i, b, near));
            }
        }
    }

    private void askSung() {
        int i = about(0, Math.max(0, model.singers.size() - 1));
        int j = about(0, Math.max(0, model.singers.size() - 1));
        int b = below(beats);
        int what = about(0, 4);
        due("pitch(" + i + ", " + b + ")", choir.pitch(i, b), model.pitch(i, b));
        due("beat(" + b + ", " + what + ")", choir.beat(b, what), model.beat(b, what));
        due("sunk(" + what + ")", choir.sunk(what), model.sunk(what));
        due("hears(" + i + ", " + j + ")", choir.hears(i, j), model.hears(i, j));
        due("knows()", choir.knows(), model.knows());
        what = about(0, 3);
        due("fit(" + i + ", " + what + ")", choir.fit(i, what), model.fit(i, what));
    }

    private void askBest() {
        int n = about(1, 3);
        int what = about(0, 1);
        if (beats < 12 || n < 3) {
            due("leader(" + n + ", " + what + ")", choir.leader(n, what), model.leader(n, what));
        }
        what = about(-1, 8);
        if (model.singers.size() < 5 || model.singers.size() > 6 || below(10) == 0) {
            due("standing(" + what + ")", choir.standing(what), model.standing(what));
        }
        int a = about(0, 100);
        int b = about(0, 100);
        what = about(0, 2);
        due("mind(" + a + ", " + b + ", " + what + ")", choir.mind(a, b, what), model.mind(a, b, what));
    }

    private void checkSome() {
        empty();
        List<Integer> numbers = new ArrayList<>();
        for (int i = 0; i < model.singers.size(); i++) {
            for (int b = 0; b < 24; b++) {
                if (model.noteOf(i, b) != null) {
                    numbers.addAll(List.of(i, b, model.pitch(i, b)));
                }
            }
        }
        int threes = Math.min(18, numbers.size() / 3);
        while (numbers.size() < 60) {
            numbers.add(below(3));
        }
        if (below(2) == 0) {
            int k = below(3 * threes + 1);
            numbers.set(k, numbers.get(k) + 1);
        }
        for (int k = 0; k < 55; k += 5) {
            feed(numbers.get(k), numbers.get(k + 1), numbers.get(k + 2), numbers.get(k + 3), numbers.get(k + 4));
        }
        feed(1, 2, 3, 4, 5);
        int n = below(3) == 0 ? below(20) : threes;
        due("check(" + n + ")", choir.check(n), model.check(n));
        due("count(1)", choir.count(1), model.count(1));
    }

    private void run() {
        for (int k = 0; k < voices * beats; k++) {
            note();
        }
        for (int k = 0; k < 12; k++) {
            tell();
        }
        tellText(text());
        while (calls < 400) {
            switch (below(12)) {
                case 0, 1, 2 -> piece();
                case 3 -> askPiece();
                case 4, 5, 6 -> tell();
                case 7 -> tellText(text());
                case 8, 9 -> askSung();
                case 10 -> askBest();
                default -> {
                    if (below(3) == 0) {
                        askWays();
                    } else {
                        checkSome();
                    }
                }
            }
        }
    }

    public static void main(String[] args) {
        int from = args.length > 0 ? Integer.parseInt(args[0]) : 0;
        int to = args.length > 1 ? Integer.parseInt(args[1]) : 60;
        for (int seed = from; seed < to && wrong < 10; seed++) {
            new RandomRunsTest(seed).run();
        }
        System.out.println(wrong == 0 ? "all answers are as the model's" : wrong + " answers are not as the model's");
        if (wrong != 0) {
            System.exit(1);
        }
    }
}
