import java.util.ArrayList;
import java.util.HashMap;
import java.util.HashSet;
import java.util.List;
import java.util.Map;
import java.util.Set;
import java.util.TreeMap;

/** The document once more, as plainly and as slowly as can be: what the class is held against by RandomRunsTest. */
final class Model {
    static final int NO = -1000000000;
    static final int NONE = -1;

    /** Exponents of 2, 3, 5. */
    record Ratio(int two, int three, int five) {
        static final Ratio ONE = new Ratio(0, 0, 0);

        int mills() {
            return two * 1200000 + three * 1901955 + five * 2786314;
        }

        Ratio times(Ratio o) {
            return new Ratio(two + o.two, three + o.three, five + o.five);
        }

        Ratio through(Ratio o) {
            return new Ratio(two - o.two, three - o.three, five - o.five);
        }

        static Ratio whole(int n) {
            for (int two = 0; two < 12; two++) {
                for (int three = 0; three < 8; three++) {
                    for (int five = 0; five < 6; five++) {
                        if (n == Math.pow(2, two) * Math.pow(3, three) * Math.pow(5, five)) {
                            return new Ratio(two, three, five);
                        }
                    }
                }
            }
            return null;
        }

        static Ratio of(int n, int d) {
            if (n < 1 || n > 2000 || d < 1 || d > 2000 || whole(n) == null || whole(d) == null) {
                return null;
            }
            Ratio r = whole(n).through(whole(d));
            return Math.abs(r.mills()) > 3000000 ? null : r;
        }
    }

    record Note(int key, Ratio ratio) { }

    static final class Refused extends RuntimeException {
        private static final long serialVersionUID = 1;
    }

    static final class Fault extends RuntimeException {
        private static final long serialVersionUID = 1;
        final int answer;

        Fault(int number, int place) {
            answer = -1000 * number - place;
        }
    }

    interface Num {
        int of(Map<Character, Integer> letters);
    }

    interface Cond {
        boolean of(Map<Character, Integer> letters);
    }

    record Clause(char letter, Num value, Cond when) { }

    record Singer(int voice, int place, int loud, int knows, TreeMap<Integer, Integer> tape) { }

    /** What one singing came to. */
    static final class Sung {
        final Map<List<Integer>, Long> pitch = new HashMap<>();
        final Map<Integer, Long> givenAt = new HashMap<>();
        long drift;
    }

    final Note[][] notes = new Note[6][24];
    final Set<List<Integer>> breaths = new HashSet<>();
    final int[] links = new int[24];
    List<Singer> singers = new ArrayList<>();
    int[] table = new int[12];
    int seed = 1;
    int blown = 0;
    int given = 0;
    List<Clause> text = new ArrayList<>();
    final List<Integer> bytes = new ArrayList<>();

    Model() {
        java.util.Arrays.fill(links, NONE);
    }

    // ---- the piece

    static boolean in(int x, int least, int most) {
        return x >= least && x <= most;
    }

    Note at(int voice, int beat) {
        return in(voice, 0, 5) && in(beat, 0, 23) ? notes[voice][beat] : null;
    }

    boolean held(int voice, int beat) {
        Note now = at(voice, beat);
        Note before = at(voice, beat - 1);
        return now != null && before != null && now.key == before.key;
    }

    void dropLinks() {
        for (int b = 0; b < 24; b++) {
            if (links[b] != NONE && !held(links[b], b)) {
                links[b] = NONE;
            }
        }
    }

    boolean note(int voice, int beat, int key, int n, int d) {
        if (!in(voice, 0, 5) || !in(beat, 0, 23) || !in(key, 0, 60) || Ratio.of(n, d) == null) {
            return false;
        }
        notes[voice][beat] = new Note(key, Ratio.of(n, d));
        dropLinks();
        return true;
    }

    boolean silent(int voice, int beat) {
        if (at(voice, beat) == null) {
            return false;
        }
        notes[voice][beat] = null;
        dropLinks();
        return true;
    }

    boolean breath(int voice, int beat, boolean is) {
        if (!in(voice, 0, 5) || !in(beat, 0, 23)) {
            return false;
        }
        return is ? breaths.add(List.of(voice, beat)) : breaths.remove(List.of(voice, beat));
    }

    int size(int n, int d) {
        return Ratio.of(n, d) == null ? NO : Ratio.of(n, d).mills();
    }

    boolean link(int beat, int voice) {
        if (!in(beat, 1, 23) || voice != NONE && !held(voice, beat)) {
            return false;
        }
        links[beat] = voice;
        return true;
    }

    Ratio keynote(int[] by, int beat) {
        Ratio r = Ratio.ONE;
        for (int b = 1; b <= beat; b++) {
            if (by[b] != NONE) {
                r = r.times(at(by[b], b - 1).ratio).through(at(by[b], b).ratio);
            }
        }
        return r;
    }

    int torn(int[] by, int voice, int beat) {
        int now = at(voice, beat).ratio.mills() + keynote(by, beat).mills();
        int before = at(voice, beat - 1).ratio.mills() + keynote(by, beat - 1).mills();
        return now - before;
    }

    int foulness(int[] by) {
        int sum = 0;
        for (int b = 1; b < 24; b++) {
            for (int v = 0; v < 6; v++) {
                sum += held(v, b) ? Math.abs(torn(by, v, b)) : 0;
            }
        }
        return sum;
    }

    int lastNoted() {
        int last = NONE;
        for (int b = 0; b < 24; b++) {
            for (int v = 0; v < 6; v++) {
                last = at(v, b) != null ? b : last;
            }
        }
        return last;
    }

    static int part(Ratio r, int what) {
        return what == 0 ? r.mills() : what == 1 ? r.two : what == 2 ? r.three : r.five;
    }

    int keynote(int beat, int what) {
        if (!in(beat, 0, 23) || !in(what, 0, 6)) {
            return NO;
        }
        if (what <= 3) {
            return part(keynote(links, beat), what);
        }
        if (what == 4) {
            return links[beat];
        }
        int bits = 0;
        for (int v = 0; v < 6; v++) {
            if (held(v, beat) && (what == 5 || torn(links, v, beat) != 0)) {
                bits += 1 << v;
            }
        }
        return bits;
    }

    int torn(int voice, int beat) {
        return held(voice, beat) ? torn(links, voice, beat) : NO;
    }

    int sink(int what) {
        int last = lastNoted();
        if (last == NONE || !in(what, 0, 5)) {
            return NO;
        }
        return what <= 3 ? part(keynote(links, last), what) : what == 4 ? foulness(links) : last;
    }

    /** All rows of links, in rising order; null: there are too many for so slow a model. */
    List<int[]> rows() {
        List<int[]> all = new ArrayList<>();
        int[] none = new int[24];
        java.util.Arrays.fill(none, NONE);
        all.add(none);
        for (int b = 1; b < 24; b++) {
            List<int[]> more = new ArrayList<>();
            for (int[] row : all) {
                for (int v = NONE; v < 6; v++) {
                    if (v == NONE || held(v, b)) {
                        int[] next = row.clone();
                        next[b] = v;
                        more.add(next);
                    }
                }
            }
            all = more;
            if (all.size() > 3000) {
                return null;
            }
        }
        return all;
    }

    boolean tooMany(List<int[]> rows) {
        for (int b = 0; b < 24; b++) {
            Set<Ratio> seen = new HashSet<>();
            for (int[] row : rows) {
                seen.add(keynote(row, b));
            }
            if (seen.size() > 300) {
                return true;
            }
        }
        return false;
    }

    int row(int what, boolean byChange, List<int[]> rows) {
        if (what != NONE && !in(what, 1, 23) || lastNoted() == NONE) {
            return NO;
        }
        if (tooMany(rows)) {
            return -2;
        }
        int[] best = null;
        int least = 0;
        for (int[] row : rows) {
            if (!keynote(row, lastNoted()).equals(Ratio.ONE)) {
                continue;
            }
            int cost = 0;
            for (int b = 0; b < 24 && byChange; b++) {
                cost += row[b] == links[b] ? 0 : 1;
            }
            cost = byChange ? cost : foulness(row);
            if (best == null || cost < least) {
                best = row;
                least = cost;
            }
        }
        return best == null ? -2 : what == NONE ? least : best[what];
    }

    int bounded(int foulness, List<int[]> rows) {
        if (!in(foulness, 0, 100000000) || lastNoted() == NONE || tooMany(rows)) {
            return NO;
        }
        Integer nearest = null;
        for (int[] row : rows) {
            int at = keynote(row, lastNoted()).mills();
            if (foulness(row) <= foulness && (nearest == null || 2L * Math.abs(at) + (at > 0 ? 1 : 0)
                < 2L * Math.abs(nearest) + (nearest > 0 ? 1 : 0))) {
                nearest = at;
            }
        }
        return nearest == null ? NO : nearest;
    }

    // ---- singers

    int singer(int voice, int place, int loud, int knows) {
        if (!in(voice, 0, 5) || !in(place, 0, 15) || !in(loud, 1, 9) || !in(knows, 0, 1) || singers.size() == 8) {
            return NONE;
        }
        singers.add(new Singer(voice, place, loud, knows, new TreeMap<>()));
        return singers.size() - 1;
    }

    boolean has(int i) {
        return in(i, 0, singers.size() - 1);
    }

    boolean place(int i, int place) {
        if (!has(i) || !in(place, 0, 15)) {
            return false;
        }
        Singer s = singers.get(i);
        singers.set(i, new Singer(s.voice, place, s.loud, s.knows, s.tape));
        return true;
    }

    boolean table(int key, int mills) {
        if (!in(key, 0, 11) || !in(mills, -60000, 60000)) {
            return false;
        }
        table[key] = mills;
        return true;
    }

    boolean seed(int x) {
        boolean fits = in(x, 0, 65535);
        seed = fits ? x : seed;
        return fits;
    }

    boolean blown(int mills) {
        boolean fits = in(mills, -200000, 200000);
        blown = fits ? mills : blown;
        return fits;
    }

    boolean given(int beats) {
        boolean fits = in(beats, 0, 16777215);
        given = fits ? beats : given;
        return fits;
    }

    int feed(int... five) {
        if (bytes.size() + 20 > 220) {
            return NONE;
        }
        for (int x : five) {
            for (int k = 3; k >= 0; k--) {
                bytes.add(x >>> 8 * k & 255);
            }
        }
        return bytes.size();
    }

    int text(int n) {
        if (!in(n, 1, 200) || bytes.size() < n) {
            return NONE;
        }
        StringBuilder s = new StringBuilder();
        for (int k = 0; k < n; k++) {
            s.append((char) (int) bytes.get(k));
        }
        bytes.clear();
        try {
            text = new Grammar(s.toString()).text();
            return text.size();
        } catch (Fault f) {
            return f.answer;
        }
    }

    /** The grammar as the document has it. */
    static final class Grammar {
        private final String s;
        private int at = 0;
        private final List<Character> open = new ArrayList<>();

        Grammar(String s) {
            this.s = s + (char) 1000;
        }

        char here() {
            return s.charAt(at);
        }

        boolean is(String any) {
            return any.indexOf(here()) >= 0;
        }

        char want(String any) {
            if (!is(any)) {
                throw new Fault(1, at);
            }
            return s.charAt(at++);
        }

        void enter(String sign) {
            if (!is(sign)) {
                throw new Fault(1, at);
            }
            if (open.size() == 6) {
                throw new Fault(5, at);
            }
            open.add(here());
            at++;
        }

        void leave(String sign) {
            want(sign);
            open.remove(open.size() - 1);
        }

        List<Clause> text() {
            List<Clause> all = new ArrayList<>();
            do {
                if (is("pstkd") && all.size() == 14) {
                    throw new Fault(4, at);
                }
                char letter = want("pstkd");
                Num value = e();
                enter("(");
                Cond when = c();
                leave(")");
                all.add(new Clause(letter, value, when));
            } while (want(";" + (char) 1000) == ';');
            return all;
        }

        Cond c() {
            Cond left = part();
            while (is("|")) {
                at++;
                Cond a = left;
                Cond b = part();
                left = m -> a.of(m) || b.of(m);
            }
            return left;
        }

        Cond part() {
            Cond left = piece();
            while (is("&")) {
                at++;
                Cond a = left;
                Cond b = piece();
                left = m -> a.of(m) && b.of(m);
            }
            return left;
        }

        Cond piece() {
            if (is("!")) {
                enter("!");
                Cond inner = piece();
                open.remove(open.size() - 1);
                return m -> !inner.of(m);
            }
            if (is("(")) {
                enter("(");
                Cond inner = c();
                leave(")");
                return inner;
            }
            Num a = e();
            char sign = want("<>=");
            Num b = e();
            return m -> {
                int x = a.of(m);
                int y = b.of(m);
                return sign == '<' ? x < y : sign == '>' ? x > y : x == y;
            };
        }

        Num e() {
            Num left = term();
            while (is("+-")) {
                char sign = want("+-");
                Num a = left;
                Num b = term();
                left = m -> sign == '+' ? a.of(m) + b.of(m) : a.of(m) - b.of(m);
            }
            return left;
        }

        Num term() {
            Num left = factor();
            while (is("*/%")) {
                char sign = want("*/%");
                Num a = left;
                Num b = factor();
                left = m -> {
                    int x = a.of(m);
                    int y = b.of(m);
                    if (sign == '*') {
                        return x * y;
                    }
                    if (y == 0) {
                        throw new Refused();
                    }
                    return sign == '/' ? x / y : x % y;
                };
            }
            return left;
        }

        Num factor() {
            if (is("[")) {
                enter("[");
                Num inner = e();
                leave("]");
                return inner;
            }
            if (is("0123456789")) {
                int from = at;
                while (is("0123456789")) {
                    if (at == from + 5) {
                        throw new Fault(2, at);
                    }
                    at++;
                }
                int value = Integer.parseInt(s.substring(from, at));
                return m -> value;
            }
            char letter = want("bvikfhjurnox");
            return m -> m.get(letter);
        }
    }

    // ---- singing

    long tableOf(int key) {
        return 100000L * key + table[key % 12];
    }

    static int hears(Singer x, Singer y) {
        return y.loud * Math.max(0, 8 - Math.abs(x.place - y.place));
    }

    int hears(int x, int y) {
        return has(x) && has(y) && x != y ? hears(singers.get(x), singers.get(y)) : NONE;
    }

    Note noteOf(int i, int beat) {
        return has(i) ? at(singers.get(i).voice, beat) : null;
    }

    int lastNote(int i, int beat) {
        int last = NONE;
        for (int b = 0; b < beat; b++) {
            last = noteOf(i, b) != null ? b : last;
        }
        return last;
    }

    int weight(char letter, Map<Character, Integer> letters) {
        for (Clause clause : text) {
            if (clause.letter != letter) {
                continue;
            }
            boolean holds;
            try {
                holds = clause.when.of(letters);
            } catch (Refused r) {
                holds = false;
            }
            if (holds) {
                int value;
                try {
                    value = clause.value.of(letters);
                } catch (Refused r) {
                    value = 0;
                }
                return letter == 'd' ? Math.max(-20000, Math.min(20000, value)) : Math.max(0, Math.min(100, value));
            }
        }
        return 0;
    }

    /** The aim p at a note, or null when nobody is heard. */
    Long heardAim(Sung sung, int i, int beat) {
        long sum = 0;
        long all = 0;
        for (int j = 0; j < i; j++) {
            if (noteOf(j, beat) != null) {
                int w = hears(singers.get(i), singers.get(j));
                int more = noteOf(i, beat).ratio.mills() - noteOf(j, beat).ratio.mills();
                sum += w * (sung.pitch.get(List.of(j, beat)) + more);
                all += w;
            }
        }
        return all == 0 ? null : Math.floorDiv(sum, all);
    }

    static long blend(long byTable, Long[] aims, int[] weights) {
        long sum = 0;
        long all = 0;
        for (int k = 0; k < aims.length; k++) {
            if (aims[k] != null) {
                sum += weights[k] * aims[k];
                all += weights[k];
            }
        }
        return all == 0 ? byTable : Math.floorDiv(sum, all);
    }

    Sung sing() {
        Sung sung = new Sung();
        Map<Integer, Long> last = new HashMap<>();
        int x = seed;
        long givenNow = blown;
        for (int b = 0; b < 24; b++) {
            if ((given >> b & 1) == 1) {
                givenNow = 0;
                for (int i : List.copyOf(last.keySet())) {
                    last.put(i, tableOf(noteOf(i, lastNote(i, b)).key));
                }
            }
            sung.givenAt.put(b, givenNow);
            for (int i = 0; i < singers.size(); i++) {
                Note now = noteOf(i, b);
                if (now == null) {
                    continue;
                }
                x = (25173 * x + 13849) % 65536;
                Singer s = singers.get(i);
                Note before = last.containsKey(i) ? noteOf(i, lastNote(i, b)) : null;
                Map<Character, Integer> letters = letters(i, b, before, last.get(i), x % 100);
                int[] weights = {weight('p', letters), weight('s', letters), weight('t', letters), weight('k', letters)};
                Long step = null;
                if (before != null) {
                    step = last.get(i) + (held(s.voice, b) ? 0 : now.ratio.mills() - before.ratio.mills());
                }
                long byTable = tableOf(now.key) + givenNow;
                Long[] aims = {heardAim(sung, i, b), step, byTable, s.knows == 1 ? tableOf(now.key) : null};
                int d = weight('d', letters);
                long pitch = blend(byTable, aims, weights) + d;
                sung.drift += d;
                sung.pitch.put(List.of(i, b), pitch);
                last.put(i, pitch);
            }
        }
        return sung;
    }

    Map<Character, Integer> letters(int i, int b, Note before, Long last, int luck) {
        Singer s = singers.get(i);
        Note now = noteOf(i, b);
        Map<Character, Integer> m = new HashMap<>();
        m.put('b', b);
        m.put('v', s.voice);
        m.put('i', i);
        m.put('k', s.knows);
        m.put('f', s.loud);
        m.put('h', held(s.voice, b) ? 1 : 0);
        m.put('j', before == null ? 0 : Math.abs(now.key - before.key));
        m.put('u', before != null && now.key > before.key ? 1 : 0);
        m.put('r', breaths.contains(List.of(s.voice, b)) ? 1 : 0);
        m.put('n', many(b));
        m.put('o', before == null ? 0 : (int) Math.floor((tableOf(before.key) - last) / 1000.0));
        m.put('x', luck);
        return m;
    }

    int many(int beat) {
        int n = 0;
        for (int i = 0; i < singers.size(); i++) {
            n += noteOf(i, beat) != null ? 1 : 0;
        }
        return n;
    }

    List<Integer> sungBeats() {
        List<Integer> beats = new ArrayList<>();
        for (int b = 0; b < 24; b++) {
            if (many(b) > 0) {
                beats.add(b);
            }
        }
        return beats;
    }

    long off(Sung sung, int beat) {
        long sum = 0;
        for (int i = 0; i < singers.size(); i++) {
            if (noteOf(i, beat) != null) {
                sum += sung.pitch.get(List.of(i, beat)) - tableOf(noteOf(i, beat).key);
            }
        }
        return Math.floorDiv(sum, many(beat));
    }

    long foul(Sung sung, int beat) {
        long sum = 0;
        for (int i = 0; i < singers.size(); i++) {
            for (int j = i + 1; j < singers.size(); j++) {
                if (noteOf(i, beat) != null && noteOf(j, beat) != null) {
                    long pitches = sung.pitch.get(List.of(i, beat)) - sung.pitch.get(List.of(j, beat));
                    sum += Math.abs(pitches - (noteOf(i, beat).ratio.mills() - noteOf(j, beat).ratio.mills()));
                }
            }
        }
        return sum;
    }

    long tableFoul(int beat) {
        long sum = 0;
        for (int v = 0; v < 6; v++) {
            for (int w = v + 1; w < 6; w++) {
                Note a = at(v, beat);
                Note b = at(w, beat);
                if (a != null && b != null) {
                    sum += Math.abs(tableOf(a.key) - tableOf(b.key) - (a.ratio.mills() - b.ratio.mills()));
                }
            }
        }
        return sum;
    }

    long foul(Sung sung) {
        long sum = 0;
        for (int b : sungBeats()) {
            sum += foul(sung, b);
        }
        return sum;
    }

    long sinking(Sung sung) {
        List<Integer> beats = sungBeats();
        return off(sung, beats.get(beats.size() - 1)) - off(sung, beats.get(0));
    }

    int pitch(int i, int beat) {
        return noteOf(i, beat) == null ? NO : (int) (long) sing().pitch.get(List.of(i, beat));
    }

    long beat(int beat, int what) {
        if (!in(beat, 0, 23) || !in(what, 0, 3)) {
            return NO;
        }
        if (what == 0) {
            return many(beat) == 0 ? NO : off(sing(), beat);
        }
        return what == 1 ? foul(sing(), beat) : what == 2 ? many(beat) : tableFoul(beat);
    }

    long sunk(int what) {
        List<Integer> beats = sungBeats();
        if (!in(what, 0, 4) || beats.isEmpty()) {
            return NO;
        }
        Sung sung = sing();
        int first = beats.get(0);
        int last = beats.get(beats.size() - 1);
        long pure = keynote(links, last).mills() - keynote(links, first).mills();
        int who = 0;
        for (int i = 0; i < singers.size(); i++) {
            who += lastNote(i, 24) != NONE ? 1 : 0;
        }
        long drift = Math.floorDiv(sung.drift, (long) who);
        long all = sinking(sung);
        return new long[] {all, pure, drift, all - pure - drift, foul(sung)}[what];
    }

    void permute(List<Integer> rest, List<Integer> done, List<List<Integer>> all) {
        if (rest.isEmpty()) {
            all.add(done);
        }
        for (int k = 0; k < rest.size(); k++) {
            List<Integer> less = new ArrayList<>(rest);
            List<Integer> more = new ArrayList<>(done);
            more.add(less.remove(k));
            permute(less, more, all);
        }
    }

    static int compare(List<Integer> a, List<Integer> b) {
        for (int k = 0; k < a.size(); k++) {
            if (!a.get(k).equals(b.get(k))) {
                return a.get(k) - b.get(k);
            }
        }
        return 0;
    }

    long standing(int what) {
        if (what != NONE && what != 8 && !has(what) || sungBeats().isEmpty()) {
            return NO;
        }
        if (singers.size() > 6) {
            return -2000000000;
        }
        List<Integer> places = new ArrayList<>();
        for (Singer s : singers) {
            places.add(s.place);
        }
        List<List<Integer>> all = new ArrayList<>();
        permute(places, new ArrayList<>(), all);
        List<Integer> best = null;
        long sinking = 0;
        long foul = 0;
        for (List<Integer> row : all) {
            for (int i = 0; i < row.size(); i++) {
                place(i, row.get(i));
            }
            Sung sung = sing();
            long s = sinking(sung);
            long f = foul(sung);
            int order = best == null ? -1 : Long.compare(Math.abs(s), Math.abs(sinking));
            order = order == 0 ? Long.compare(f, foul) : order;
            order = order == 0 ? compare(row, best) : order;
            if (order < 0) {
                best = row;
                sinking = s;
                foul = f;
            }
        }
        for (int i = 0; i < places.size(); i++) {
            place(i, places.get(i));
        }
        return what == NONE ? sinking : what == 8 ? foul : best.get(what);
    }

    long leader(int n, int what) {
        List<Integer> beats = sungBeats();
        if (!in(n, 1, 3) || !in(what, 0, 1) || beats.isEmpty()) {
            return NONE;
        }
        int told = given;
        long set = -2;
        long least = 0;
        int last = beats.get(beats.size() - 1);
        for (int bits = 0; bits < 2 << last; bits++) {
            boolean fits = Integer.bitCount(bits) == n && (bits & (2 << beats.get(0)) - 1) == 0;
            if (!fits) {
                continue;
            }
            given = bits;
            Sung sung = sing();
            long most = 0;
            for (int b : beats) {
                most = Math.max(most, Math.abs(off(sung, b)));
            }
            if (set == -2 || most < least) {
                set = bits;
                least = most;
            }
        }
        given = told;
        return what == 0 || set == -2 ? set : least;
    }

    int worst() {
        int worst = NONE;
        for (int b = 23; b >= 0; b--) {
            boolean noted = false;
            for (int v = 0; v < 6; v++) {
                noted |= at(v, b) != null;
            }
            if (noted && (worst == NONE || tableFoul(b) >= tableFoul(worst))) {
                worst = b;
            }
        }
        return worst;
    }

    long knows() {
        if (sungBeats().isEmpty()) {
            return NO;
        }
        long told = sinking(sing());
        List<Singer> knowing = singers;
        singers = new ArrayList<>();
        for (Singer s : knowing) {
            singers.add(new Singer(s.voice, s.place, s.loud, 0, s.tape));
        }
        long without = sinking(sing());
        singers = knowing;
        return told - without;
    }

    boolean tape(int i, int beat, int pitch) {
        if (!has(i) || !in(beat, 0, 23) || !in(pitch, -10000000, 10000000)) {
            return false;
        }
        singers.get(i).tape.put(beat, pitch);
        return true;
    }

    long fit(int i, int what) {
        if (!has(i) || !in(what, 0, 3)) {
            return NONE;
        }
        Sung sung = sing();
        Singer s = singers.get(i);
        long[] best = null;
        boolean some = false;
        for (int row = 1; row < 64; row++) {
            int[] weights = {row / 16, row / 4 % 4, row % 4};
            long sum = 0;
            Integer before = null;
            for (int b = 0; b < 24; b++) {
                if (noteOf(i, b) == null || !s.tape.containsKey(b)) {
                    continue;
                }
                some = true;
                Long step = null;
                if (before != null) {
                    boolean stays = held(s.voice, b) && before == b - 1;
                    int more = noteOf(i, b).ratio.mills() - noteOf(i, before).ratio.mills();
                    step = (long) s.tape.get(before) + (stays ? 0 : more);
                }
                long byTable = tableOf(noteOf(i, b).key) + sung.givenAt.get(b);
                long aim = blend(byTable, new Long[] {heardAim(sung, i, b), step, byTable}, weights);
                sum += Math.abs(aim - s.tape.get(b));
                before = b;
            }
            if (best == null || sum < best[3]) {
                best = new long[] {weights[0], weights[1], weights[2], sum};
            }
        }
        return some ? best[what] : -2;
    }

    long mind(int a, int b, int what) {
        if (!in(a, 0, 100) || !in(b, 0, 100) || !in(what, 0, 2) || sungBeats().isEmpty()) {
            return NONE;
        }
        int[] told = table;
        long[] minds = new long[12];
        int best = 0;
        for (int turn = 0; turn < 12; turn++) {
            table = new int[12];
            for (int k = 0; k < 12; k++) {
                table[(k + turn) % 12] = told[k];
            }
            Sung sung = sing();
            minds[turn] = a * (Math.abs(sinking(sung)) / 1000) + b * (foul(sung) / 1000);
            best = minds[turn] < minds[best] ? turn : best;
        }
        table = told;
        return what == 0 ? minds[0] : what == 1 ? minds[best] : best;
    }

    int check(int n) {
        if (n < 0 || 12L * n > bytes.size()) {
            return -2;
        }
        List<Long> due = new ArrayList<>();
        Sung sung = sing();
        for (int i = 0; i < singers.size(); i++) {
            for (int b = 0; b < 24; b++) {
                if (noteOf(i, b) != null) {
                    due.addAll(List.of((long) i, (long) b, sung.pitch.get(List.of(i, b))));
                }
            }
        }
        int answer = NONE;
        for (int k = 3 * n - 1; k >= 0; k--) {
            int number = bytes.get(4 * k) << 24 | bytes.get(4 * k + 1) << 16 | bytes.get(4 * k + 2) << 8
                | bytes.get(4 * k + 3);
            if (k >= due.size() || due.get(k) != number) {
                answer = k;
            }
        }
        bytes.clear();
        return answer == NONE && due.size() > 3 * n ? 3 * n : answer;
    }

    int count(int what) {
        int noted = 0;
        int linked = 0;
        for (int b = 0; b < 24; b++) {
            linked += links[b] != NONE ? 1 : 0;
            for (int v = 0; v < 6; v++) {
                noted += at(v, b) != null ? 1 : 0;
            }
        }
        int[] first = {singers.size(), bytes.size(), text.size(), noted, linked, seed, blown, Integer.bitCount(given)};
        return in(what, 0, 7) ? first[what] : has(what - 10) && what >= 10 ? singers.get(what - 10).place : NONE;
    }
}
