import java.util.ArrayList;
import java.util.Arrays;
import java.util.Collections;
import java.util.HashMap;
import java.util.List;
import java.util.Map;
import java.util.Random;

/**
 * What the class finds by a short cut, found once more by trying all, in pieces too long for RandomRunsTest: LINKS of
 * pieces of up to 24 BEATS (also where there are about 300 KEYNOTES), THE LEADER's BEATS out of 24, STANDING of six.
 */
public final class ShortCutsTest {
    private static final String[] FRACTIONS = {"1/1", "3/2", "5/4", "4/3", "5/3", "9/8", "10/9", "2/1", "6/5", "8/5",
        "40/27", "27/20", "15/8", "16/9", "81/64", "32/27", "81/80", "80/81", "25/24", "1600/2000"};
    private static final String[] TEXTS = {"s3(1=1);t1(1=1);p9(x<60);dx*20-1000(1=1)", "p2(1=1);s1(h=0);do*300-500(x<50)",
        "s1(1=1);do*100+x-60(r=0);k3(o>2);p1(x>40)", "p3(i>0);s2(1=1);t1(x<30);d[x-50]*30(1=1)"};
    private static final int ALL = 100000000;
    private static int wrong = 0;
    private static int asked = 0;

    private final String name;
    private final Random random;
    private final SinkingChoir x = new SinkingChoir();
    /** KEY, SIZE and exponents of 2, 3, 5 by VOICES and BEATS; null where a VOICE is silent. */
    private final int[][][] notes = new int[6][24][];
    private final int[] links = new int[24];

    private ShortCutsTest(String what, int seed) {
        name = what + " " + seed;
        random = new Random(seed);
        Arrays.fill(links, -1);
    }

    private int below(int n) {
        return random.nextInt(n);
    }

    private void due(String call, long got, long want) {
        asked++;
        if (got != want) {
            wrong++;
            System.out.println(name + ": " + call + " answered " + got + ", due is " + want);
        }
    }

    // ---- pieces

    private static int times(int prime, int number) {
        return number % prime == 0 ? 1 + times(prime, number / prime) : 0;
    }

    private void piece(int voices, int beats, int fractions, int keys, int fullness) {
        for (int v = 0; v < voices; v++) {
            for (int b = 0; b < beats; b++) {
                String[] f = FRACTIONS[below(fractions)].split("/");
                int n = Integer.parseInt(f[0]);
                int d = Integer.parseInt(f[1]);
                int key = 20 + below(keys);
                if (below(100) < fullness && x.note(v, b, key, n, d)) {
                    int two = times(2, n) - times(2, d);
                    int three = times(3, n) - times(3, d);
                    int five = times(5, n) - times(5, d);
                    notes[v][b] = new int[] {key, mills(List.of(two, three, five)), two, three, five};
                }
            }
        }
    }

    private static int mills(List<Integer> exponents) {
        return 1200000 * exponents.get(0) + 1901955 * exponents.get(1) + 2786314 * exponents.get(2);
    }

    private boolean held(int v, int b) {
        return notes[v][b] != null && notes[v][b - 1] != null && notes[v][b][0] == notes[v][b - 1][0];
    }

    private int lastBeat() {
        for (int b = 23; b >= 0; b--) {
            for (int v = 0; v < 6; v++) {
                if (notes[v][b] != null) {
                    return b;
                }
            }
        }
        return -1;
    }

    // ---- links

    /** The cheapest row of LINKS (from BEAT 1 on) that leads to a KEYNOTE, of like ones the least. */
    record Row(int cost, List<Integer> links) implements Comparable<Row> {
        Row with(int link, int more) {
            List<Integer> longer = new ArrayList<>(links);
            longer.add(link);
            return new Row(cost + more, longer);
        }

        @Override
        public int compareTo(Row o) {
            return cost != o.cost ? Integer.compare(cost, o.cost) : Arrays.compare(links.toArray(Integer[]::new),
                o.links.toArray(Integer[]::new));
        }
    }

    /** By KEYNOTES of the last BEAT, as exponents; null: in some BEAT there could be more than 300. */
    private Map<List<Integer>, Row> rows(boolean byChange) {
        Map<List<Integer>, Row> rows = new HashMap<>();
        rows.put(List.of(0, 0, 0), new Row(0, List.of()));
        int last = lastBeat();
        for (int b = 1; b <= last && rows.size() <= 300; b++) {
            Map<List<Integer>, Row> next = new HashMap<>();
            for (Map.Entry<List<Integer>, Row> e : rows.entrySet()) {
                for (int link = -1; link < 6; link++) {
                    if (link == -1 || held(link, b)) {
                        List<Integer> to = moved(e.getKey(), link, b);
                        int move = mills(to) - mills(e.getKey());
                        int cost = !byChange ? foulness(b, move) : link == links[b] ? 0 : 1;
                        next.merge(to, e.getValue().with(link, cost), (p, q) -> p.compareTo(q) <= 0 ? p : q);
                    }
                }
            }
            rows = next;
        }
        return rows.size() > 300 ? null : rows;
    }

    private List<Integer> moved(List<Integer> from, int link, int b) {
        List<Integer> to = new ArrayList<>(from);
        for (int k = 0; k < 3 && link >= 0; k++) {
            to.set(k, from.get(k) + notes[link][b - 1][2 + k] - notes[link][b][2 + k]);
        }
        return to;
    }

    private int foulness(int b, int move) {
        int sum = 0;
        for (int v = 0; v < 6; v++) {
            sum += held(v, b) ? Math.abs(notes[v][b][1] - notes[v][b - 1][1] + move) : 0;
        }
        return sum;
    }

    private void askRow(boolean byChange, Map<List<Integer>, Row> rows) {
        Row best = rows == null ? null : rows.get(List.of(0, 0, 0));
        for (int what = -1; what < 24; what++) {
            if (what != 0) {
                boolean isLink = best != null && what > 0 && what <= best.links.size();
                int want = best == null ? -2 : what == -1 ? best.cost : isLink ? best.links.get(what - 1) : -1;
                due((byChange ? "change(" : "way(") + what + ")", byChange ? x.change(what) : x.way(what), want);
            }
        }
    }

    private void askBounded(int foulness, Map<List<Integer>, Row> rows) {
        int nearest = -1000000000;
        for (Map.Entry<List<Integer>, Row> e : rows == null ? List.<Map.Entry<List<Integer>, Row>>of() : rows.entrySet()) {
            int at = mills(e.getKey());
            boolean nearer = Math.abs(at) < Math.abs(nearest) || at == -Math.abs(nearest);
            nearest = e.getValue().cost <= foulness && nearer ? at : nearest;
        }
        due("bounded(" + foulness + ")", x.bounded(foulness), nearest);
    }

    private void ways() {
        piece(1 + below(6), 2 + below(23), 2 + below(FRACTIONS.length - 1), 1 + below(3), 50 + below(51));
        for (int b = 1; b < 24; b++) {
            int link = below(6);
            links[b] = below(3) > 0 && x.link(b, link) ? link : -1;
        }
        if (lastBeat() == -1) {
            return;
        }
        Map<List<Integer>, Row> rows = rows(false);
        askRow(false, rows);
        askRow(true, rows(true));
        askBounded(0, rows);
        askBounded(ALL, rows);
        List<Row> some = rows == null ? List.of() : new ArrayList<>(rows.values());
        for (int k = 0; k < some.size() && k < 20; k++) {
            int cost = some.get(k).cost;
            if (cost > 0 && cost <= ALL) {
                askBounded(cost, rows);
                askBounded(cost - 1, rows);
            }
        }
    }

    // ---- singers

    private void choir(int singers, int voices) {
        for (int i = 0; i < singers; i++) {
            x.singer(below(voices), below(9), 1 + below(9), below(2));
        }
        for (int k = 0; k < 12; k++) {
            x.table(k, below(20000) - 10000);
        }
        x.blown(below(40000) - 20000);
        x.seed(below(65536));
        Edges.tell(x, TEXTS[below(TEXTS.length)]);
    }

    private List<Integer> setsOf(int n, int first, int last) {
        List<Integer> sets = new ArrayList<>();
        for (int a = first + 1; a <= last; a++) {
            for (int b = n < 2 ? a : a + 1; b <= (n < 2 ? a : last); b++) {
                for (int c = n < 3 ? b : b + 1; c <= (n < 3 ? b : last); c++) {
                    sets.add(1 << a | 1 << b | 1 << c);
                }
            }
        }
        Collections.sort(sets);
        return sets;
    }

    private long farthest(int set) {
        x.given(set);
        long most = 0;
        for (int b = 0; b < 24; b++) {
            most = Math.max(most, x.beat(b, 2) == 0 ? 0 : Math.abs(x.beat(b, 0)));
        }
        return most;
    }

    private void leader() {
        piece(3, 24, 7, 6, 20 + below(80));
        choir(4, 3);
        List<Integer> sung = new ArrayList<>();
        for (int b = 0; b < 24; b++) {
            if (x.beat(b, 2) > 0) {
                sung.add(b);
            }
        }
        for (int n = 1; n <= 3; n++) {
            long best = -2;
            long least = -2;
            for (int set : setsOf(n, sung.get(0), sung.get(sung.size() - 1))) {
                long most = farthest(set);
                if (best == -2 || most < least) {
                    best = set;
                    least = most;
                }
            }
            x.given(below(1 << 24));
            due("leader(" + n + ", 0)", x.leader(n, 0), best);
            due("leader(" + n + ", 1)", x.leader(n, 1), least);
        }
    }

    private void standing() {
        piece(4, 8, 7, 4, 80);
        choir(6, 4);
        List<Integer> places = new ArrayList<>();
        for (int i = 0; i < 6; i++) {
            places.add(x.count(10 + i));
        }
        long[] got = new long[8];
        for (int k = 0; k < 8; k++) {
            got[k] = x.standing(k == 7 ? 8 : k - 1);
        }
        long[] best = null;
        for (List<Integer> row : orders(places)) {
            for (int i = 0; i < 6; i++) {
                x.place(i, row.get(i));
            }
            long[] next = new long[8];
            next[0] = x.sunk(0);
            next[7] = x.sunk(4);
            for (int i = 0; i < 6; i++) {
                next[i + 1] = row.get(i);
            }
            best = best == null || compare(next, best) < 0 ? next : best;
        }
        for (int k = 0; k < 8; k++) {
            due("standing(" + (k == 7 ? 8 : k - 1) + ")", got[k], best[k]);
        }
    }

    private static List<List<Integer>> orders(List<Integer> of) {
        if (of.isEmpty()) {
            return List.of(List.of());
        }
        List<List<Integer>> all = new ArrayList<>();
        for (int k = 0; k < of.size(); k++) {
            List<Integer> rest = new ArrayList<>(of);
            int first = rest.remove(k);
            for (List<Integer> order : orders(rest)) {
                List<Integer> whole = new ArrayList<>(List.of(first));
                whole.addAll(order);
                all.add(whole);
            }
        }
        return all;
    }

    /** By how far it sinks, by foulness, by the row of places. */
    private static int compare(long[] a, long[] b) {
        if (Math.abs(a[0]) != Math.abs(b[0])) {
            return Long.compare(Math.abs(a[0]), Math.abs(b[0]));
        }
        return a[7] != b[7] ? Long.compare(a[7], b[7]) : Arrays.compare(a, 1, 7, b, 1, 7);
    }

    public static void main(String[] args) {
        int times = args.length > 0 ? Integer.parseInt(args[0]) : 1;
        for (int seed = 0; seed < 400 * times; seed++) {
            new ShortCutsTest("ways", seed).ways();
        }
        for (int seed = 0; seed < 4 * times; seed++) {
            new ShortCutsTest("leader", seed).leader();
            new ShortCutsTest("standing", seed).standing();
        }
        boolean all = wrong == 0 && asked >= 400 * 46;
        System.out.println(all ? "all short cuts lead there" : wrong + " of " + asked + " answers are not as due");
        if (!all) {
            System.exit(1);
        }
    }
}
