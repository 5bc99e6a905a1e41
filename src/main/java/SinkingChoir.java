import java.util.Arrays;

/** A choir that sinks: a piece above a keynote that gives way, and singers who aim by a text. See README.md. */
public final class SinkingChoir {
    public static final int NONE = -1;

    private static final int NO = -1000000000;
    private static final int TOO_MANY = -2000000000;
    private static final int UNTOLD = -2;
    private static final int VOICES = 6;
    private static final int BEATS = 24;
    private static final int SINGERS = 8;
    private static final int PLACES = 16;
    private static final int HIGHEST_KEY = 60;
    private static final int OCTAVE = 12;
    private static final int STANDING_SINGERS = 6;
    private static final int PITCH_BOUND = 10000000;

    private final Score score;
    private final Choir choir;
    private final Singing singing;
    private final Standing best;
    private final Leading leading;
    private final Fitting fitting;
    private final Reel reel;
    private final Reader reader;
    private Ways ways;
    private int changes;

    public SinkingChoir() {
        score = new Score();
        choir = new Choir(score);
        singing = new Singing(score, choir);
        best = new Standing(choir, singing);
        leading = new Leading(choir, singing);
        fitting = new Fitting(score, choir, singing);
        reel = new Reel();
        reader = new Reader();
    }

    // ---- the piece

    public boolean note(int voice, int beat, int key, int n, int d) {
        int exponents = Fraction.of(n, d);
        if (!Score.has(voice, beat) || key < 0 || key > HIGHEST_KEY || exponents == Fraction.UNKNOWN) {
            return false;
        }
        score.put(voice, beat, key, exponents);
        return changed();
    }

    public boolean silent(int voice, int beat) {
        if (!score.sounds(voice, beat)) {
            return false;
        }
        score.put(voice, beat, NONE, 0);
        return changed();
    }

    public boolean breath(int voice, int beat, boolean is) {
        if (!Score.has(voice, beat) || score.breathes(voice, beat) == is) {
            return false;
        }
        score.breaths[voice] ^= 1 << beat;
        return changed();
    }

    public int size(int n, int d) {
        int exponents = Fraction.of(n, d);
        return exponents == Fraction.UNKNOWN ? NO : Fraction.mills(exponents);
    }

    public boolean link(int beat, int voice) {
        if (beat < 1 || beat >= BEATS || (voice != NONE && !score.holds(voice, beat))) {
            return false;
        }
        score.bind(beat, voice);
        return changed();
    }

    public int keynote(int beat, int what) {
        if (beat < 0 || beat >= BEATS) {
            return NO;
        }
        switch (what) {
            case 0: return score.keynotes[beat];
            case 1:
            case 2:
            case 3: return Fraction.exponent(score.keynoteExponents[beat], what);
            case 4: return score.links[beat];
            case 5: return score.heldIn(beat);
            case 6: return score.tornIn(beat);
            default: return NO;
        }
    }

    public int torn(int voice, int beat) {
        return score.holds(voice, beat) ? score.tear(voice, beat) : NO;
    }

    public int sink(int what) {
        int last = score.lastBeat();
        if (last == NONE) {
            return NO;
        }
        switch (what) {
            case 0: return score.keynotes[last];
            case 1:
            case 2:
            case 3: return Fraction.exponent(score.keynoteExponents[last], what);
            case 4: return score.foulness();
            case 5: return last;
            default: return NO;
        }
    }

    public int way(int what) {
        if (!asksRow(what)) {
            return NO;
        }
        Ways open = explored();
        return open != null && open.leastRow(false) ? open.told(what) : UNTOLD;
    }

    public int change(int what) {
        if (!asksRow(what)) {
            return NO;
        }
        Ways open = explored();
        return open != null && open.leastRow(true) ? open.told(what) : UNTOLD;
    }

    public int bounded(int foulness) {
        if (foulness < 0 || foulness > 100000000 || score.lastBeat() == NONE) {
            return NO;
        }
        Ways open = explored();
        return open != null ? open.nearest(foulness) : NO;
    }

    // ---- the singers and what they are told

    public int singer(int voice, int place, int loud, int knows) {
        boolean fits = voice >= 0 && voice < VOICES && place >= 0 && place < PLACES;
        if (!fits || loud < 1 || loud > 9 || knows < 0 || knows > 1 || choir.count >= SINGERS) {
            return NONE;
        }
        int i = choir.count;
        choir.voices[i] = voice;
        choir.places[i] = place;
        choir.louds[i] = loud;
        choir.knowing[i] = knows;
        choir.count++;
        changed();
        return i;
    }

    public boolean place(int i, int place) {
        if (!choir.has(i) || place < 0 || place >= PLACES) {
            return false;
        }
        choir.places[i] = place;
        return changed();
    }

    public boolean table(int key, int mills) {
        if (key < 0 || key >= OCTAVE || mills < -60000 || mills > 60000) {
            return false;
        }
        choir.tables[key] = mills;
        return changed();
    }

    public boolean seed(int x) {
        if (x < 0 || x > 65535) {
            return false;
        }
        choir.luck = x;
        return changed();
    }

    public boolean blown(int mills) {
        if (mills < -200000 || mills > 200000) {
            return false;
        }
        choir.wind = mills;
        return changed();
    }

    public boolean given(int beats) {
        if (beats < 0 || beats >= 1 << BEATS) {
            return false;
        }
        choir.givings = beats;
        return changed();
    }

    public int feed(int a, int b, int c, int d, int e) {
        if (!reel.hasRoom()) {
            return NONE;
        }
        reel.add(a);
        reel.add(b);
        reel.add(c);
        reel.add(d);
        reel.add(e);
        return reel.length;
    }

    public int text(int n) {
        if (n < 1 || n > Reader.LONGEST || n > reel.length) {
            return NONE;
        }
        int fault = reader.read(reel.bytes, n);
        reel.length = 0;
        if (fault != 0) {
            return -fault;
        }
        choir.words = reader.exchange(choir.words);
        changed();
        return choir.words.clauses;
    }

    // ---- what is sung

    public int pitch(int i, int beat) {
        if (!choir.sings(i, beat)) {
            return NO;
        }
        singing.asTold();
        return (int) singing.sung(i, beat);
    }

    public long beat(int beat, int what) {
        if (beat < 0 || beat >= BEATS) {
            return NO;
        }
        switch (what) {
            case 0:
                singing.asTold();
                return choir.howMany(beat) == 0 ? NO : singing.off(beat);
            case 1:
                singing.asTold();
                return singing.foul(beat);
            case 2: return choir.howMany(beat);
            case 3: return choir.tableFoul(beat);
            default: return NO;
        }
    }

    public long sunk(int what) {
        if (what < 0 || what > 4 || choir.firstBeat() == NONE) {
            return NO;
        }
        singing.asTold();
        long pure = score.keynotes[choir.lastBeat()] - score.keynotes[choir.firstBeat()];
        switch (what) {
            case 0: return singing.sinking();
            case 1: return pure;
            case 2: return singing.drifting();
            case 3: return singing.sinking() - pure - singing.drifting();
            default: return singing.foulTogether();
        }
    }

    public int hears(int x, int y) {
        return choir.has(x) && choir.has(y) && x != y ? Choir.heard(choir.louds[y], choir.places[x], choir.places[y]) : NONE;
    }

    public long standing(int what) {
        boolean asked = what == NONE || what == 8 || choir.has(what);
        if (!asked || choir.firstBeat() == NONE) {
            return NO;
        }
        if (choir.count > STANDING_SINGERS) {
            return TOO_MANY;
        }
        best.find(changes);
        return what == NONE ? best.sinking : what == 8 ? best.foul : best.places[what];
    }

    public long leader(int n, int what) {
        if (n < 1 || n > 3 || what < 0 || what > 1 || choir.firstBeat() == NONE) {
            return NONE;
        }
        if (choir.lastBeat() - choir.firstBeat() < n) {
            return UNTOLD;
        }
        leading.find(n);
        return what == 0 ? leading.set : leading.greatest;
    }

    public int worst() {
        int worst = NONE;
        for (int b = 0; b < BEATS; b++) {
            if (score.soundsIn(b) && (worst == NONE || choir.tableFoul(b) > choir.tableFoul(worst))) {
                worst = b;
            }
        }
        return worst;
    }

    public long knows() {
        if (choir.firstBeat() == NONE) {
            return NO;
        }
        singing.asTold();
        long told = singing.sinking();
        singing.sing(choir.places, choir.givings, 0, true);
        return told - singing.sinking();
    }

    public boolean tape(int i, int beat, int pitch) {
        if (!choir.has(i) || beat < 0 || beat >= BEATS || pitch < -PITCH_BOUND || pitch > PITCH_BOUND) {
            return false;
        }
        choir.putRecord(i, beat, pitch);
        return true;
    }

    public long fit(int i, int what) {
        if (!choir.has(i) || what < 0 || what > 3) {
            return NONE;
        }
        singing.asTold();
        return fitting.find(i) ? fitting.told(what) : UNTOLD;
    }

    public long mind(int a, int b, int what) {
        boolean asked = a >= 0 && a <= 100 && b >= 0 && b <= 100 && what >= 0 && what <= 2;
        if (!asked || choir.firstBeat() == NONE) {
            return NONE;
        }
        long least = minded(a, b, 0);
        int turn = 0;
        for (int t = 1; t < OCTAVE && what > 0; t++) {
            long by = minded(a, b, t);
            if (by < least) {
                least = by;
                turn = t;
            }
        }
        return what == 2 ? turn : least;
    }

    public int check(int n) {
        if (n < 0 || n > reel.length / 12) {
            return UNTOLD;
        }
        singing.asTold();
        int wrong = firstWrong(n);
        reel.length = 0;
        return wrong;
    }

    public int count(int what) {
        switch (what) {
            case 0: return choir.count;
            case 1: return reel.length;
            case 2: return choir.words.clauses;
            case 3: return score.noteCount();
            case 4: return score.linkCount();
            case 5: return choir.luck;
            case 6: return choir.wind;
            case 7: return Integer.bitCount(choir.givings);
            default: return what >= 10 && choir.has(what - 10) ? choir.places[what - 10] : NONE;
        }
    }

    // ---- helpers of the calls

    private boolean changed() {
        changes++;
        return true;
    }

    private boolean asksRow(int what) {
        return (what == NONE || (what >= 1 && what < BEATS)) && score.lastBeat() != NONE;
    }

    /** Null where none is told. Made at the first asking, as most choirs never ask and its rows are the longest. */
    private Ways explored() {
        if (ways == null) {
            ways = new Ways(score);
        }
        return ways.explore() ? ways : null;
    }

    private long minded(int a, int b, int turn) {
        singing.sing(choir.places, choir.givings, turn, false);
        return a * (Math.abs(singing.sinking()) / 1000) + b * (singing.foulTogether() / 1000);
    }

    private int firstWrong(int n) {
        int threes = 0;
        for (int i = 0; i < choir.count; i++) {
            for (int b = 0; b < BEATS; b++) {
                if (!choir.sings(i, b)) {
                    continue;
                }
                if (threes == n || reel.number(3 * threes) != i) {
                    return 3 * threes;
                }
                if (reel.number(3 * threes + 1) != b) {
                    return 3 * threes + 1;
                }
                if (reel.number(3 * threes + 2) != singing.sung(i, b)) {
                    return 3 * threes + 2;
                }
                threes++;
            }
        }
        return threes == n ? NONE : 3 * threes;
    }

    /**
     * Fractions of the primes 2, 3 and 5. Their three exponents stand in one int, 1024 apart, so that ints add
     * as fractions multiply; no exponent of a keynote comes near 512 (23 beats by 20 at most).
     */
    private static final class Fraction {
        static final int UNKNOWN = Integer.MIN_VALUE;
        private static final int TWO = 1 << 20;
        private static final int THREE = 1 << 10;
        private static final int FIVE = 1;
        private static final int MIDDLE = 512 * (TWO + THREE + FIVE);
        private static final int MOST = 2000;
        private static final int WIDEST = 3000000;

        static int of(int n, int d) {
            int above = ofNumber(n);
            int below = ofNumber(d);
            if (above == UNKNOWN || below == UNKNOWN) {
                return UNKNOWN;
            }
            int exponents = above - below;
            int mills = mills(exponents);
            return mills < -WIDEST || mills > WIDEST ? UNKNOWN : exponents;
        }

        /** The exponent of 2, 3, 5 by which 1, 2, 3. */
        static int exponent(int exponents, int which) {
            int shifted = exponents + MIDDLE >> 10 * (3 - which);
            return (shifted & 1023) - 512;
        }

        static int mills(int exponents) {
            return 1200000 * exponent(exponents, 1) + 1901955 * exponent(exponents, 2) + 2786314 * exponent(exponents, 3);
        }

        private static int ofNumber(int number) {
            if (number < 1 || number > MOST) {
                return UNKNOWN;
            }
            int rest = number;
            int exponents = 0;
            for (int k = 0; k < MOST && rest > 1; k++) {
                if (rest % 2 == 0) {
                    rest /= 2;
                    exponents += TWO;
                } else if (rest % 3 == 0) {
                    rest /= 3;
                    exponents += THREE;
                } else if (rest % 5 == 0) {
                    rest /= 5;
                    exponents += FIVE;
                } else {
                    return UNKNOWN;
                }
            }
            return exponents;
        }
    }

    /** Notes by voices and beats, breaths, links, and the keynote that comes of them. */
    private static final class Score {
        final int[] keys = new int[VOICES * BEATS];
        final int[] exponents = new int[VOICES * BEATS];
        final int[] mills = new int[VOICES * BEATS];
        final int[] breaths = new int[VOICES];
        final int[] links = new int[BEATS];
        final int[] keynotes = new int[BEATS];
        final int[] keynoteExponents = new int[BEATS];

        Score() {
            Arrays.fill(keys, NONE);
            Arrays.fill(links, NONE);
        }

        static boolean has(int voice, int beat) {
            return voice >= 0 && voice < VOICES && beat >= 0 && beat < BEATS;
        }

        static int cell(int voice, int beat) {
            return voice * BEATS + beat;
        }

        boolean sounds(int voice, int beat) {
            return voice >= 0 && voice < VOICES && beat >= 0 && beat < BEATS && keys[voice * BEATS + beat] != NONE;
        }

        boolean holds(int voice, int beat) {
            return sounds(voice, beat) && sounds(voice, beat - 1)
                && keys[voice * BEATS + beat] == keys[voice * BEATS + beat - 1];
        }

        boolean breathes(int voice, int beat) {
            return has(voice, beat) && (breaths[voice] >> beat & 1) == 1;
        }

        /** A note, or none (key NONE); its links in this beat and the next fall if it is held there no more. */
        void put(int voice, int beat, int key, int exponentsOfIt) {
            if (!has(voice, beat)) {
                return;
            }
            keys[cell(voice, beat)] = key;
            exponents[cell(voice, beat)] = exponentsOfIt;
            mills[cell(voice, beat)] = Fraction.mills(exponentsOfIt);
            for (int b = beat; b <= beat + 1 && b < BEATS; b++) {
                if (links[b] == voice && !holds(voice, b)) {
                    links[b] = NONE;
                }
            }
            tune();
        }

        void bind(int beat, int voice) {
            if (beat > 0 && beat < BEATS) {
                links[beat] = voice;
                tune();
            }
        }

        /** By how many exponents the keynote moves if this voice is the link of the beat (NONE: it stays). */
        int shift(int voice, int beat) {
            return holds(voice, beat) ? exponents[cell(voice, beat - 1)] - exponents[cell(voice, beat)] : 0;
        }

        private void tune() {
            for (int b = 1; b < BEATS; b++) {
                keynoteExponents[b] = keynoteExponents[b - 1] + shift(links[b], b);
                keynotes[b] = Fraction.mills(keynoteExponents[b]);
            }
        }

        /** How far a held note would be torn if the keynote moved so far ahead of its beat. */
        int tearBy(int voice, int beat, int move) {
            return holds(voice, beat) ? mills[cell(voice, beat)] - mills[cell(voice, beat - 1)] + move : 0;
        }

        int tear(int voice, int beat) {
            return holds(voice, beat) ? tearBy(voice, beat, keynotes[beat] - keynotes[beat - 1]) : 0;
        }

        /** The foulness of one beat if the keynote moved so far ahead of it. */
        int foulnessBy(int beat, int move) {
            int foulness = 0;
            for (int v = 0; v < VOICES; v++) {
                foulness += Math.abs(tearBy(v, beat, move));
            }
            return foulness;
        }

        int foulness() {
            int foulness = 0;
            for (int b = 1; b < BEATS; b++) {
                foulness += foulnessBy(b, keynotes[b] - keynotes[b - 1]);
            }
            return foulness;
        }

        int heldIn(int beat) {
            int bits = 0;
            for (int v = 0; v < VOICES; v++) {
                bits |= holds(v, beat) ? 1 << v : 0;
            }
            return bits;
        }

        int tornIn(int beat) {
            int bits = 0;
            for (int v = 0; v < VOICES; v++) {
                bits |= tear(v, beat) != 0 ? 1 << v : 0;
            }
            return bits;
        }

        boolean soundsIn(int beat) {
            for (int v = 0; v < VOICES; v++) {
                if (sounds(v, beat)) {
                    return true;
                }
            }
            return false;
        }

        int lastBeat() {
            for (int b = BEATS - 1; b >= 0; b--) {
                if (soundsIn(b)) {
                    return b;
                }
            }
            return NONE;
        }

        int noteCount() {
            int notes = 0;
            for (int c = 0; c < VOICES * BEATS; c++) {
                notes += keys[c] == NONE ? 0 : 1;
            }
            return notes;
        }

        int linkCount() {
            int told = 0;
            for (int b = 0; b < BEATS; b++) {
                told += links[b] == NONE ? 0 : 1;
            }
            return told;
        }
    }

    /**
     * The links by which a piece can go: all keynotes of each beat that some links lead to (in rising order of
     * their exponents' ints, so that a link, which moves all alike, leads from one row to the next in step).
     * Link 0 of a beat is none, link v + 1 is voice v.
     */
    private static final class Ways {
        private static final int MOST = 300;
        private static final int LINKS = VOICES + 1;
        private static final int FAR = Integer.MAX_VALUE;

        private final Score score;
        private final int[] nodes = new int[BEATS * MOST];
        private final int[] costs = new int[BEATS * MOST];
        private final int[] counts = new int[BEATS];
        private final int[] merged = new int[MOST];
        private final int[] shifts = new int[BEATS * LINKS];
        private final int[] prices = new int[BEATS * LINKS];
        private final int[] row = new int[BEATS];
        private int total;
        private int last;

        Ways(Score score) {
            this.score = score;
        }

        /** False: in some beat there could be too many keynotes, or there is no note. */
        boolean explore() {
            last = score.lastBeat();
            nodes[0] = 0;
            counts[0] = 1;
            for (int b = 1; b <= last; b++) {
                counts[b] = counts[b - 1];
                System.arraycopy(nodes, (b - 1) * MOST, nodes, b * MOST, counts[b]);
                for (int v = 0; v < VOICES; v++) {
                    int shift = score.shift(v, b);
                    shifts[b * LINKS + v + 1] = shift;
                    if (score.holds(v, b) && !spread(b, shift)) {
                        return false;
                    }
                }
            }
            return last != NONE;
        }

        /** Merges what the beat before leads to by this shift into the beat's row. */
        private boolean spread(int beat, int shift) {
            int old = (beat - 1) * MOST;
            int mine = beat * MOST;
            int i = 0;
            int j = 0;
            int n = 0;
            for (; n < MOST && (i < counts[beat - 1] || j < counts[beat]); n++) {
                int moved = i < counts[beat - 1] ? nodes[old + i] + shift : FAR;
                int kept = j < counts[beat] ? nodes[mine + j] : FAR;
                merged[n] = Math.min(moved, kept);
                i += moved == merged[n] ? 1 : 0;
                j += kept == merged[n] ? 1 : 0;
            }
            if (i < counts[beat - 1] || j < counts[beat]) {
                return false;
            }
            System.arraycopy(merged, 0, nodes, mine, n);
            counts[beat] = n;
            return true;
        }

        /** What each link costs: its beat's foulness, or whether it is another than is told; FAR: it can't be. */
        private void price(boolean byChange) {
            for (int b = 1; b <= last; b++) {
                for (int link = 0; link < LINKS; link++) {
                    int voice = link == 0 ? NONE : link - 1;
                    int cost = FAR;
                    if (link == 0 || score.holds(voice, b)) {
                        int changed = voice == score.links[b] ? 0 : 1;
                        cost = byChange ? changed : score.foulnessBy(b, Fraction.mills(shifts[b * LINKS + link]));
                    }
                    prices[b * LINKS + link] = cost;
                }
            }
        }

        /** Of the rows that lead back to the keynote of the beginning the cheapest, of like ones the least. */
        boolean leastRow(boolean byChange) {
            int goal = find(last, 0);
            if (goal == NONE) {
                return false;
            }
            price(byChange);
            Arrays.fill(costs, FAR);
            costs[goal] = 0;
            for (int b = last; b >= 1; b--) {
                for (int link = 0; link < LINKS; link++) {
                    relax(b, link, false);
                }
            }
            total = costs[0];
            return total != FAR && follow();
        }

        /** The total of the least row, or its link in a beat. */
        int told(int what) {
            return what >= 1 && what < BEATS ? row[what] : total;
        }

        private int find(int beat, int node) {
            for (int k = 0; beat >= 0 && beat < BEATS && k < counts[beat]; k++) {
                if (nodes[beat * MOST + k] == node) {
                    return beat * MOST + k;
                }
            }
            return NONE;
        }

        /** Takes one link from every node of the beat before: carries costs on to the beat, or back from it. */
        private void relax(int beat, int link, boolean onward) {
            int price = prices[beat * LINKS + link];
            int t = 0;
            for (int s = 0; s < counts[beat - 1] && price != FAR; s++) {
                int from = (beat - 1) * MOST + s;
                int wanted = nodes[from] + shifts[beat * LINKS + link];
                while (t < counts[beat] - 1 && nodes[beat * MOST + t] < wanted) {
                    t++;
                }
                int to = beat * MOST + t;
                int source = onward ? from : to;
                int target = onward ? to : from;
                if (nodes[to] == wanted && costs[source] != FAR) {
                    costs[target] = Math.min(costs[target], costs[source] + price);
                }
            }
        }

        /** From the beginning always the least link that keeps to the least cost. */
        private boolean follow() {
            int at = 0;
            Arrays.fill(row, NONE);
            for (int b = 1; b <= last; b++) {
                int next = NONE;
                for (int link = 0; link < LINKS && next == NONE; link++) {
                    int price = prices[b * LINKS + link];
                    int to = price == FAR ? NONE : find(b, nodes[at] + shifts[b * LINKS + link]);
                    if (to != NONE && costs[to] != FAR && costs[at] == price + costs[to]) {
                        next = to;
                        row[b] = link == 0 ? NONE : link - 1;
                    }
                }
                if (next == NONE) {
                    return false;
                }
                at = next;
            }
            return true;
        }

        /** The keynote nearest to 0 that links of no more foulness end at. */
        int nearest(int foulness) {
            price(false);
            Arrays.fill(costs, FAR);
            costs[0] = 0;
            for (int b = 1; b <= last; b++) {
                for (int link = 0; link < LINKS; link++) {
                    relax(b, link, true);
                }
            }
            int nearest = NO;
            for (int k = 0; last >= 0 && k < counts[last]; k++) {
                if (costs[last * MOST + k] <= foulness) {
                    nearest = nearer(nearest, Fraction.mills(nodes[last * MOST + k]));
                }
            }
            return nearest;
        }

        private static int nearer(int a, int b) {
            int far = Math.abs(a);
            int near = Math.abs(b);
            return near < far || (near == far && b < a) ? b : a;
        }
    }

    /** A text that was read: steps of a stack machine, by clauses first those of the E, then those of the C. */
    private static final class Program {
        static final int CLAUSES = 14;
        static final int NUMBER = 0;
        static final int LETTER = 1;
        static final int PLUS = 2;
        static final int MINUS = 3;
        static final int TIMES = 4;
        static final int THROUGH = 5;
        static final int REST = 6;
        static final int LESS = 7;
        static final int MORE = 8;
        static final int LIKE = 9;
        static final int NOT = 10;
        static final int AND = 11;
        static final int OR = 12;
        static final int P = 0;
        static final int S = 1;
        static final int T = 2;
        static final int K = 3;
        static final int D = 4;
        private static final int STACK = 64;

        private final int[] ops = new int[Reader.LONGEST];
        private final int[] args = new int[Reader.LONGEST];
        private final int[] stack = new int[STACK];
        private final int[] aimed = new int[CLAUSES];
        private final int[] starts = new int[CLAUSES + 1];
        private final int[] middles = new int[CLAUSES];
        private int steps;
        int clauses;

        void clear() {
            steps = 0;
            clauses = 0;
        }

        int add(int op, int arg) {
            if (steps < ops.length) {
                ops[steps] = op;
                args[steps] = arg;
                steps++;
            }
            return steps - 1;
        }

        /** The jump that was added there leads to what is added next. */
        void land(int jump) {
            if (jump >= 0 && jump < steps) {
                args[jump] = steps;
            }
        }

        void open(int weight) {
            if (clauses < CLAUSES) {
                aimed[clauses] = weight;
                starts[clauses] = steps;
            }
        }

        void divide() {
            if (clauses < CLAUSES) {
                middles[clauses] = steps;
            }
        }

        void close() {
            if (clauses < CLAUSES) {
                clauses++;
                starts[clauses] = steps;
            }
        }

        /** The weights for what the letters are now: of each by its first clause that holds. */
        void weigh(int[] letters, int[] weights) {
            int found = 0;
            Arrays.fill(weights, 0);
            for (int c = 0; c < clauses; c++) {
                int w = aimed[c];
                boolean open = w >= 0 && w < weights.length && (found >> w & 1) == 0;
                if (open && reckon(middles[c], starts[c + 1], letters) && stack[0] != 0) {
                    found |= 1 << w;
                    weights[w] = reckon(starts[c], middles[c], letters) ? within(w, stack[0]) : 0;
                }
            }
        }

        private static int within(int weight, int value) {
            int least = weight == D ? -20000 : 0;
            int most = weight == D ? 20000 : 100;
            return value < least ? least : value > most ? most : value;
        }

        /** Takes the steps up to an end; false: refused. What comes of them lies at the bottom of the stack. */
        private boolean reckon(int from, int to, int[] letters) {
            int top = NONE;
            for (int at = from; at < to && at < steps; at++) {
                int op = ops[at];
                int arg = args[at];
                if (op == NUMBER || op == LETTER) {
                    top++;
                    if (top >= STACK || (op == LETTER && (arg < 0 || arg >= letters.length))) {
                        return false;
                    }
                    stack[top] = op == NUMBER ? arg : letters[arg];
                } else if (top < 0) {
                    return false;
                } else if (op == NOT) {
                    stack[top] = 1 - stack[top];
                } else if (op == AND || op == OR) {
                    if ((stack[top] == 0) == (op == AND)) {
                        at = Math.max(at, arg - 1);
                    } else {
                        top--;
                    }
                } else {
                    if (top < 1 || (stack[top] == 0 && (op == THROUGH || op == REST))) {
                        return false;
                    }
                    top--;
                    stack[top] = reckoned(op, stack[top], stack[top + 1]);
                }
            }
            return top == 0;
        }

        private static int reckoned(int op, int a, int b) {
            switch (op) {
                case PLUS: return a + b;
                case MINUS: return a - b;
                case TIMES: return a * b;
                case THROUGH: return b == 0 ? 0 : a / b;
                case REST: return b == 0 ? 0 : a % b;
                case LESS: return a < b ? 1 : 0;
                case MORE: return a > b ? 1 : 0;
                default: return a == b ? 1 : 0;
            }
        }
    }

    /** Reads a text into a program of its own, by the shape of the grammar; the first fault ends it. */
    private static final class Reader {
        static final int LONGEST = 200;
        /** The letters of E, in the order of Singing's row of what they are. */
        static final String LETTERS = "bvikfhjurnox";
        private static final String WEIGHTS = "pstkd";
        private static final int END = -1;
        private static final int DEEPEST = 6;
        private static final int DIGITS = 5;
        private static final int MISPLACED = 1;
        private static final int LONG_NUMBER = 2;
        private static final int MANY_CLAUSES = 4;
        private static final int TOO_DEEP = 5;

        private final int[] signs = new int[LONGEST];
        private Program out = new Program();
        private int length;
        private int at;
        private int fault;

        /** 0, or 1000 times the fault's number, more by its place. */
        int read(int[] bytes, int n) {
            length = Math.min(n, Math.min(bytes.length, LONGEST));
            System.arraycopy(bytes, 0, signs, 0, length);
            out.clear();
            at = 0;
            fault = 0;
            clause(0);
            for (int c = 1; c <= Program.CLAUSES && fault == 0 && at < length; c++) {
                take(';');
                clause(c);
            }
            return fault;
        }

        /** What was read last, for a program that may be written over. */
        Program exchange(Program old) {
            Program mine = out;
            out = old;
            return mine;
        }

        private int here() {
            return fault == 0 && at < length ? signs[at] : END;
        }

        private void fail(int number) {
            fault = fault == 0 ? 1000 * number + at : fault;
        }

        private void take(int sign) {
            if (here() == sign) {
                at++;
            } else {
                fail(MISPLACED);
            }
        }

        private static int indexIn(String row, int sign) {
            return sign == END ? NONE : row.indexOf((char) sign);
        }

        private void clause(int c) {
            int weight = indexIn(WEIGHTS, here());
            if (weight == NONE) {
                fail(MISPLACED);
                return;
            }
            if (c == Program.CLAUSES) {
                fail(MANY_CLAUSES);
                return;
            }
            at++;
            out.open(weight);
            sum(0);
            out.divide();
            take('(');
            either(1);
            take(')');
            out.close();
        }

        private void either(int open) {
            all(open);
            for (int k = 0; k < LONGEST && here() == '|'; k++) {
                at++;
                int jump = out.add(Program.OR, 0);
                all(open);
                out.land(jump);
            }
        }

        private void all(int open) {
            piece(open);
            for (int k = 0; k < LONGEST && here() == '&'; k++) {
                at++;
                int jump = out.add(Program.AND, 0);
                piece(open);
                out.land(jump);
            }
        }

        private void piece(int open) {
            int sign = here();
            if (sign != '!' && sign != '(') {
                sum(open);
                int op = comparison();
                sum(open);
                out.add(op, 0);
            } else if (open >= DEEPEST) {
                fail(TOO_DEEP);
            } else if (sign == '!') {
                at++;
                piece(open + 1);
                out.add(Program.NOT, 0);
            } else {
                at++;
                either(open + 1);
                take(')');
            }
        }

        private int comparison() {
            int sign = here();
            if (sign != '<' && sign != '>' && sign != '=') {
                fail(MISPLACED);
                return Program.LIKE;
            }
            at++;
            return sign == '<' ? Program.LESS : sign == '>' ? Program.MORE : Program.LIKE;
        }

        private void sum(int open) {
            product(open);
            for (int k = 0; k < LONGEST && (here() == '+' || here() == '-'); k++) {
                int op = here() == '+' ? Program.PLUS : Program.MINUS;
                at++;
                product(open);
                out.add(op, 0);
            }
        }

        private void product(int open) {
            factor(open);
            for (int k = 0; k < LONGEST && (here() == '*' || here() == '/' || here() == '%'); k++) {
                int op = here() == '*' ? Program.TIMES : here() == '/' ? Program.THROUGH : Program.REST;
                at++;
                factor(open);
                out.add(op, 0);
            }
        }

        private void factor(int open) {
            int sign = here();
            int letter = indexIn(LETTERS, sign);
            if (letter != NONE) {
                at++;
                out.add(Program.LETTER, letter);
            } else if (isDigit(sign)) {
                number();
            } else if (sign != '[') {
                fail(MISPLACED);
            } else if (open >= DEEPEST) {
                fail(TOO_DEEP);
            } else {
                at++;
                sum(open + 1);
                take(']');
            }
        }

        private static boolean isDigit(int sign) {
            return sign >= '0' && sign <= '9';
        }

        private void number() {
            int value = 0;
            for (int k = 0; k < DIGITS && isDigit(here()); k++) {
                value = 10 * value + here() - '0';
                at++;
            }
            if (isDigit(here())) {
                fail(LONG_NUMBER);
            }
            out.add(Program.NUMBER, value);
        }
    }

    /** The bytes that were fed. */
    private static final class Reel {
        private static final int MOST = 220;
        private static final int FEED = 20;

        final int[] bytes = new int[MOST];
        int length;

        boolean hasRoom() {
            return length <= MOST - FEED;
        }

        void add(int four) {
            for (int shift = 24; shift >= 0 && length < MOST; shift -= 8) {
                bytes[length] = four >> shift & 255;
                length++;
            }
        }

        /** The number of four bytes that stands there (0 where there is none). */
        int number(int n) {
            if (n < 0 || n >= length / 4) {
                return 0;
            }
            return bytes[4 * n] << 24 | bytes[4 * n + 1] << 16 | bytes[4 * n + 2] << 8 | bytes[4 * n + 3];
        }
    }

    /** The singers, and all that is told to them. */
    private static final class Choir {
        private final Score score;
        final int[] voices = new int[SINGERS];
        final int[] places = new int[SINGERS];
        final int[] louds = new int[SINGERS];
        final int[] knowing = new int[SINGERS];
        private final int[] recorded = new int[SINGERS * BEATS];
        private final int[] records = new int[SINGERS];
        final int[] tables = new int[OCTAVE];
        Program words;
        int count;
        int luck;
        int wind;
        int givings;

        Choir(Score score) {
            this.score = score;
            words = new Program();
            luck = 1;
        }

        boolean has(int i) {
            return i >= 0 && i < count && i < SINGERS;
        }

        boolean sings(int i, int beat) {
            return has(i) && score.sounds(voices[i], beat);
        }

        int howMany(int beat) {
            int many = 0;
            for (int i = 0; i < count; i++) {
                many += sings(i, beat) ? 1 : 0;
            }
            return many;
        }

        int howManySing() {
            int many = 0;
            for (int i = 0; i < count; i++) {
                many += lastNote(i, BEATS) == NONE ? 0 : 1;
            }
            return many;
        }

        /** The latest beat ahead of this one in which the singer has a note. */
        int lastNote(int i, int beat) {
            for (int b = beat - 1; b >= 0; b--) {
                if (sings(i, b)) {
                    return b;
                }
            }
            return NONE;
        }

        int firstBeat() {
            for (int b = 0; b < BEATS; b++) {
                if (howMany(b) > 0) {
                    return b;
                }
            }
            return NONE;
        }

        int lastBeat() {
            for (int b = BEATS - 1; b >= 0; b--) {
                if (howMany(b) > 0) {
                    return b;
                }
            }
            return NONE;
        }

        static int heard(int loud, int hearer, int other) {
            int near = 8 - Math.abs(hearer - other);
            return near > 0 ? loud * near : 0;
        }

        int tableOf(int key, int turn) {
            return 100000 * key + tables[Math.floorMod(key - turn, OCTAVE)];
        }

        /** If all voices sang the table, each once. */
        long tableFoul(int beat) {
            long foul = 0;
            for (int v = 0; v < VOICES; v++) {
                for (int w = 0; w < v; w++) {
                    if (score.sounds(v, beat) && score.sounds(w, beat)) {
                        foul += Math.abs(above(v, beat) - above(w, beat));
                    }
                }
            }
            return foul;
        }

        private int above(int voice, int beat) {
            int cell = Score.cell(voice, beat);
            return tableOf(score.keys[cell], 0) - score.mills[cell];
        }

        void putRecord(int i, int beat, int pitch) {
            if (has(i) && beat >= 0 && beat < BEATS) {
                recorded[i * BEATS + beat] = pitch;
                records[i] |= 1 << beat;
            }
        }

        /** Whether the singer has a note there, and a pitch on its tape. */
        boolean isRecorded(int i, int beat) {
            return sings(i, beat) && (records[i] >> beat & 1) == 1;
        }

        int recordOf(int i, int beat) {
            return isRecorded(i, beat) ? recorded[i * BEATS + beat] : 0;
        }

        int lastRecord(int i, int beat) {
            for (int b = beat - 1; b >= 0; b--) {
                if (isRecorded(i, b)) {
                    return b;
                }
            }
            return NONE;
        }
    }

    /** All beats sung once: as all is told, or with one thing otherwise. */
    private static final class Singing {
        private final Score score;
        private final Choir choir;
        private final long[] pitches = new long[SINGERS * BEATS];
        private final long[] lasts = new long[SINGERS];
        private final int[] letters = new int[Reader.LETTERS.length()];
        private final int[] weights = new int[5];
        private final long[] aims = new long[4];
        private final boolean[] counts = new boolean[4];
        private int[] places;
        private int givings;
        private int turn;
        private boolean nobodyKnows;
        private long drift;
        private int luck;
        private int many;

        Singing(Score score, Choir choir) {
            this.score = score;
            this.choir = choir;
            places = choir.places;
        }

        void asTold() {
            sing(choir.places, choir.givings, 0, false);
        }

        void sing(int[] atPlaces, int givenAhead, int tableTurn, boolean withNobodyKnowing) {
            places = atPlaces;
            givings = givenAhead;
            turn = tableTurn;
            nobodyKnows = withNobodyKnowing;
            luck = choir.luck;
            drift = 0;
            for (int b = 0; b < BEATS; b++) {
                many = choir.howMany(b);
                if ((givings >> b & 1) == 1) {
                    giveAgain(b);
                }
                for (int i = 0; i < choir.count && many > 0; i++) {
                    if (choir.sings(i, b)) {
                        singNote(i, b);
                    }
                }
            }
        }

        private void giveAgain(int beat) {
            for (int i = 0; i < choir.count; i++) {
                int last = choir.lastNote(i, beat);
                if (last != NONE) {
                    lasts[i] = tableOf(i, last);
                }
            }
        }

        private void singNote(int i, int beat) {
            int last = choir.lastNote(i, beat);
            luck = 25173 * luck + 13849 & 65535;
            tellLetters(i, beat, last);
            choir.words.weigh(letters, weights);
            aim(i, beat, last, lasts[i]);
            long pitch = blend(weights[Program.P], weights[Program.S], weights[Program.T], weights[Program.K])
                + weights[Program.D];
            drift += weights[Program.D];
            pitches[i * BEATS + beat] = pitch;
            lasts[i] = pitch;
        }

        /** In the order of Reader.LETTERS. */
        private void tellLetters(int i, int beat, int last) {
            int voice = choir.voices[i];
            int leap = last == NONE ? 0 : score.keys[Score.cell(voice, beat)] - score.keys[Score.cell(voice, last)];
            letters[0] = beat;
            letters[1] = voice;
            letters[2] = i;
            letters[3] = isKnowing(i) ? 1 : 0;
            letters[4] = choir.louds[i];
            letters[5] = score.holds(voice, beat) ? 1 : 0;
            letters[6] = Math.abs(leap);
            letters[7] = leap > 0 ? 1 : 0;
            letters[8] = score.breathes(voice, beat) ? 1 : 0;
            letters[9] = many;
            letters[10] = last == NONE ? 0 : (int) Math.floorDiv(tableOf(i, last) - lasts[i], 1000L);
            letters[11] = luck % 100;
        }

        private boolean isKnowing(int i) {
            return choir.knowing[i] == 1 && !nobodyKnows;
        }

        private long tableOf(int i, int beat) {
            return choir.tableOf(score.keys[Score.cell(choir.voices[i], beat)], turn);
        }

        private long millsOf(int i, int beat) {
            return score.mills[Score.cell(choir.voices[i], beat)];
        }

        private int givenIn(int beat) {
            int aheadOfIt = givings & (2 << beat) - 1;
            return aheadOfIt == 0 ? choir.wind : 0;
        }

        /** Finds the aims of a note, and which of them count, for a singer whose last pitch this is. */
        void aim(int i, int beat, int last, long lastPitch) {
            long ears = 0;
            long heard = 0;
            for (int j = 0; j < i; j++) {
                if (choir.sings(j, beat)) {
                    int weight = Choir.heard(choir.louds[j], places[i], places[j]);
                    ears += weight;
                    heard += weight * (pitches[j * BEATS + beat] + millsOf(i, beat) - millsOf(j, beat));
                }
            }
            counts[Program.P] = ears > 0;
            aims[Program.P] = ears > 0 ? Math.floorDiv(heard, ears) : 0;
            counts[Program.S] = last != NONE;
            boolean stays = last == beat - 1 && score.holds(choir.voices[i], beat);
            aims[Program.S] = last == NONE ? 0 : stays ? lastPitch : lastPitch + millsOf(i, beat) - millsOf(i, last);
            counts[Program.T] = true;
            aims[Program.T] = tableOf(i, beat) + givenIn(beat);
            counts[Program.K] = isKnowing(i);
            aims[Program.K] = tableOf(i, beat);
        }

        /** The aim by weights, of the aims that were found last. */
        long blend(int p, int s, int t, int k) {
            long together = 0;
            long through = 0;
            for (int w = 0; w < aims.length; w++) {
                int weight = w == Program.P ? p : w == Program.S ? s : w == Program.T ? t : k;
                if (counts[w]) {
                    together += weight * aims[w];
                    through += weight;
                }
            }
            return through > 0 ? Math.floorDiv(together, through) : aims[Program.T];
        }

        long sung(int i, int beat) {
            return choir.sings(i, beat) ? pitches[i * BEATS + beat] : 0;
        }

        /** Of a beat in which somebody sings; 0 of others. */
        long off(int beat) {
            long together = 0;
            long through = 0;
            for (int i = 0; i < choir.count; i++) {
                if (choir.sings(i, beat)) {
                    together += sung(i, beat) - tableOf(i, beat);
                    through++;
                }
            }
            return through > 0 ? Math.floorDiv(together, through) : 0;
        }

        long foul(int beat) {
            long foul = 0;
            for (int i = 0; i < choir.count; i++) {
                for (int j = 0; j < i; j++) {
                    if (choir.sings(i, beat) && choir.sings(j, beat)) {
                        long apart = sung(i, beat) - sung(j, beat);
                        foul += Math.abs(apart - (millsOf(i, beat) - millsOf(j, beat)));
                    }
                }
            }
            return foul;
        }

        long foulTogether() {
            long foul = 0;
            for (int b = 0; b < BEATS; b++) {
                foul += foul(b);
            }
            return foul;
        }

        long sinking() {
            return off(choir.lastBeat()) - off(choir.firstBeat());
        }

        long drifting() {
            long through = choir.howManySing();
            return through > 0 ? Math.floorDiv(drift, through) : 0;
        }
    }

    /** The best of all ways to put the singers to their places. */
    private static final class Standing {
        private static final int WAYS = 720;

        private final Choir choir;
        private final Singing singing;
        private final int[] tried = new int[SINGERS];
        final int[] places = new int[SINGERS];
        long sinking;
        long foul;
        private int foundAt;

        Standing(Choir choir, Singing singing) {
            this.choir = choir;
            this.singing = singing;
            foundAt = NONE;
        }

        /** Kept until something changes, as one finding takes many singings. */
        void find(int changes) {
            if (foundAt == changes) {
                return;
            }
            foundAt = changes;
            System.arraycopy(choir.places, 0, tried, 0, SINGERS);
            sort(0);
            boolean more = true;
            for (int k = 0; k < WAYS && more; k++) {
                singing.sing(tried, choir.givings, 0, false);
                long off = singing.sinking();
                long far = Math.abs(off) - Math.abs(sinking);
                if (k == 0 || far < 0 || (far == 0 && singing.foulTogether() < foul)) {
                    sinking = off;
                    foul = singing.foulTogether();
                    System.arraycopy(tried, 0, places, 0, SINGERS);
                }
                more = next();
            }
        }

        private void sort(int from) {
            for (int i = from; i < choir.count; i++) {
                for (int j = i; j > from && tried[j] < tried[j - 1]; j--) {
                    swap(j, j - 1);
                }
            }
        }

        private void swap(int i, int j) {
            int place = tried[i];
            tried[i] = tried[j];
            tried[j] = place;
        }

        /** The next greater row of the same places; false: there is none. */
        private boolean next() {
            int i = choir.count - 2;
            while (i >= 0 && tried[i] >= tried[i + 1]) {
                i--;
            }
            if (i < 0) {
                return false;
            }
            int j = choir.count - 1;
            while (j > i + 1 && tried[j] <= tried[i]) {
                j--;
            }
            swap(i, j);
            sort(i + 1);
            return true;
        }
    }

    /** The beats ahead of which a leader best gives it again. */
    private static final class Leading {
        private final Choir choir;
        private final Singing singing;
        private final long[] far = new long[BEATS * BEATS];
        int set;
        long greatest;

        Leading(Choir choir, Singing singing) {
            this.choir = choir;
            this.singing = singing;
        }

        /** Sets of n are looked at from the least on; with less than three, beats of them stand for the lacking ones. */
        void find(int n) {
            int first = choir.firstBeat();
            int last = choir.lastBeat();
            singing.sing(choir.places, 0, 0, false);
            chart(0, last);
            for (int b = first + 1; b <= last; b++) {
                singing.sing(choir.places, 1 << b, 0, false);
                chart(b, last);
            }
            set = 0;
            greatest = Long.MAX_VALUE;
            for (int c = first + 1; c <= last; c++) {
                int lastB = n > 1 ? c - 1 : c;
                for (int b = n > 1 ? first + 1 : c; b <= lastB; b++) {
                    int lastA = n > 2 ? b - 1 : b;
                    for (int a = n > 2 ? first + 1 : b; a <= lastA; a++) {
                        long early = Math.max(farthest(0, a - 1), farthest(a, b - 1));
                        long late = Math.max(farthest(b, c - 1), farthest(c, last));
                        consider(1 << a | 1 << b | 1 << c, Math.max(early, late));
                    }
                }
            }
        }

        /**
         * How far off any beat that was sung is from one on up to each later one. Once it is given again, nothing
         * that was sung before matters: so what comes behind a giving is the same in every set up to the next one.
         */
        private void chart(int from, int last) {
            long most = 0;
            for (int b = from; b <= last; b++) {
                most = Math.max(most, Math.abs(singing.off(b)));
                far[from * BEATS + b] = most;
            }
        }

        private long farthest(int from, int to) {
            return to < from ? 0 : far[from * BEATS + to];
        }

        private void consider(int candidate, long most) {
            if (most < greatest) {
                set = candidate;
                greatest = most;
            }
        }
    }

    /** The weights by which a singer's tape is best told. */
    private static final class Fitting {
        private static final int ROWS = 64;

        private final Score score;
        private final Choir choir;
        private final Singing singing;
        private final long[] differences = new long[ROWS];
        private int row;

        Fitting(Score score, Choir choir, Singing singing) {
            this.score = score;
            this.choir = choir;
            this.singing = singing;
        }

        /** By what was sung last; false: there is no beat with a note and a pitch on the tape. */
        boolean find(int i) {
            Arrays.fill(differences, 0);
            for (int b = 0; b < BEATS; b++) {
                if (choir.isRecorded(i, b)) {
                    addBeat(i, b);
                }
            }
            row = 1;
            for (int r = 2; r < ROWS; r++) {
                if (differences[r] < differences[row]) {
                    row = r;
                }
            }
            return choir.lastRecord(i, BEATS) != NONE;
        }

        /** A row stands for its weights p, s, t as digits of 4, so that rows rise as their numbers do. */
        private void addBeat(int i, int beat) {
            int last = choir.lastRecord(i, beat);
            singing.aim(i, beat, last, choir.recordOf(i, last));
            for (int r = 1; r < ROWS; r++) {
                long aim = singing.blend(r >> 4, r >> 2 & 3, r & 3, 0);
                differences[r] += Math.abs(aim - choir.recordOf(i, beat));
            }
        }

        long told(int what) {
            switch (what) {
                case 0: return row >> 4;
                case 1: return row >> 2 & 3;
                case 2: return row & 3;
                default: return row >= 0 && row < ROWS ? differences[row] : 0;
            }
        }
    }
}
