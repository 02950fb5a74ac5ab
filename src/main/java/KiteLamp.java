import java.util.Arrays;
import java.util.NoSuchElementException;

/** A lamp held up by kites over a harbour; ../shared/DOC.md says what each call promises. */
public final class KiteLamp {
    public static final int NONE = -1;

    private static final int OUTSIDE = -2;

    private static final int KITES = 6;
    private static final int TOP = 40;
    private static final int HEIGHTS = TOP + 1;
    private static final int SIGNS = 1000;
    private static final int NOTES = 10;
    private static final int MARKS = 4;

    private static final int LAST_MINUTE = 9999;
    private static final int LAST_PLACE = 999;
    private static final int LAST_AWAY = 999;
    private static final int LAST_SEED = 9999;
    private static final int LONGEST_RUN = 1000;
    private static final int LONGEST_WATCH = 240;
    private static final int LONGEST_NIGHT = 60;
    private static final int MOST_NIGHTS = 20;
    /** A line of 40 hauled by single fathoms with a rest behind each is down well before this. */
    private static final int LONGEST_DOWN = 200;

    private static final int BOX = 1;
    private static final int TAIL = 2;
    private static final int HEAVY = 3;
    private static final int DEAF = 4;
    private static final int LAZY = 5;

    private final byte[] tape;
    private int signs;
    private final SkyReader reader;
    private final Air air;
    private final Search search;
    private final Night now;
    /** What is only asked about goes by here, so that the night itself stays as it is. */
    private final Night ahead;
    private final Night[] marks;
    private int laid;

    public KiteLamp() {
        Sky empty = new Sky();
        tape = new byte[SIGNS];
        reader = new SkyReader(empty);
        air = new Air(empty);
        search = new Search();
        now = new Night(empty);
        ahead = new Night(empty);
        marks = new Night[MARKS];
        for (int i = 0; i < MARKS; i++) {
            marks[i] = new Night(empty);
        }
    }

    public int feed(long a, long b, long c) {
        feedEight(a);
        feedEight(b);
        feedEight(c);
        return signs;
    }

    public int sky() {
        Sky told = new Sky();
        int fault = reader.read(tape, signs, told);
        signs = 0;
        if (fault == 0) {
            now.begin(told);
        }
        return fault;
    }

    public int kite(int kite, int what) {
        if (!isKite(kite)) {
            return NONE;
        }
        switch (what) {
            case 0:
                return now.sky.kinds[kite];
            case 1:
                return now.lengths[kite];
            case 2:
                air.feel(now, now.minute, 0);
                return now.isLost(kite) ? 0 : air.pulls[kite];
            case 3:
                air.feel(now, now.minute, 0);
                return now.isLost(kite) ? 2 : air.slack >> kite & 1;
            case 4:
                return now.whistles[kite];
            case 5:
                return now.hauled[kite];
            default:
                return NONE;
        }
    }

    public int wind(int high) {
        if (!isHeight(high)) {
            return NONE;
        }
        return air.windAt(now.sky, high, now.minute, 0);
    }

    public int lamp(int minute, int what) throws NoSuchElementException {
        if (!isWithin(minute, 0, LAST_MINUTE) || !isWithin(what, 0, 2)) {
            throw new NoSuchElementException("no such minute, or nothing such of the lamp");
        }
        air.look(now, minute, 0);
        return what == 0 ? air.place : what == 1 ? air.high : air.raw;
    }

    public boolean whistle(int kite, int length) {
        if (!isKite(kite) || !isHeight(length) || now.isLost(kite) || now.sky.kinds[kite] == DEAF) {
            return false;
        }
        now.whistles[kite] = now.lengths[kite] == length ? NONE : length;
        return true;
    }

    public boolean lose(int kite, boolean found) {
        if (!isKite(kite) || now.isLost(kite) != found) {
            return false;
        }
        now.lost ^= 1 << kite;
        now.whistles[kite] = NONE;
        now.hauled[kite] = 0;
        if (found) {
            now.lengths[kite] = 0;
        }
        return true;
    }

    public int run(int minutes) {
        if (!isWithin(minutes, 1, LONGEST_RUN)) {
            return NONE;
        }
        for (int i = 0; i < minutes; i++) {
            if (now.sky.hasRule()) {
                air.look(now, now.minute, 0);
            }
            now.passMinute(air);
        }
        return now.minute;
    }

    public int nearest(int place, int high, int what) {
        if (!isSpot(place, high) || !isWithin(what, 0, now.sky.kites + 1)) {
            return NONE;
        }
        search.seekNearest(now, air, place, high);
        return what == 0 ? search.bestAway() : what == 1 ? search.bestChanged() : search.bestLength(what - 2);
    }

    public int fewest(int place, int high, int away, int each) {
        if (!isSpot(place, high) || !isWithin(away, 0, LAST_AWAY) || !isWithin(each, 1, 3)) {
            return NONE;
        }
        return search.seekFewest(now, air, place, high, away, each) ? search.bestChanged() : NONE;
    }

    public int holds(int place, int high, int away, int minutes) {
        if (!isSpot(place, high) || !isWithin(away, 0, LAST_AWAY) || !isWithin(minutes, 1, LONGEST_WATCH)) {
            return OUTSIDE;
        }
        ahead.take(now);
        for (int i = 0; i < minutes; i++) {
            air.look(ahead, ahead.minute, 0);
            if (distance(air.place, air.high, place, high) > away) {
                return i;
            }
            ahead.passMinute(air);
        }
        return NONE;
    }

    public int mayGo(int high) {
        if (!isHeight(high)) {
            return NONE;
        }
        air.feel(now, now.minute, 0);
        int bits = 0;
        for (int k = 0; k < now.sky.kites; k++) {
            // A LOST kite is gone already, so it is none that may go.
            if (!now.isLost(k)) {
                air.hang(now, now.lost | 1 << k);
                bits |= air.high >= high ? 1 << k : 0;
            }
        }
        return bits;
    }

    public int needed(int high, int what) {
        if (!isHeight(high) || !isWithin(what, 0, 1)) {
            return NONE;
        }
        int kept = fewestKept(high);
        return kept == NONE || what == 1 ? kept : Integer.bitCount(kept);
    }

    public long mean(int minutes, int what) {
        if (!isWithin(minutes, 1, LONGEST_WATCH) || !isWithin(what, 0, 3)) {
            return NONE;
        }
        long sum = 0;
        int least = Integer.MAX_VALUE;
        int greatest = 0;
        ahead.take(now);
        for (int i = 0; i < minutes; i++) {
            air.look(ahead, ahead.minute, 0);
            sum += air.place;
            least = Math.min(least, air.place);
            greatest = Math.max(greatest, air.place);
            ahead.passMinute(air);
        }
        if (what >= 2) {
            return what == 2 ? least : greatest;
        }
        long common = commonDivisor(sum, minutes);
        return (what == 0 ? sum : minutes) / (common > 0 ? common : 1);
    }

    public int down() {
        ahead.take(now);
        int minutes = 0;
        while (minutes < LONGEST_DOWN && !ahead.isAllDown()) {
            ahead.haulDown();
            minutes++;
        }
        return minutes;
    }

    public int note(int minute, int place, int high) {
        if (!isWithin(minute, 0, LAST_MINUTE) || !isSpot(place, high) || now.notes >= NOTES) {
            return NONE;
        }
        now.noteMinutes[now.notes] = minute;
        now.notePlaces[now.notes] = place;
        now.noteHighs[now.notes] = high;
        now.notes++;
        return now.notes;
    }

    public boolean clear() {
        now.notes = 0;
        return true;
    }

    public int fits() {
        return Long.bitCount(fittingSets());
    }

    public int fit(int i) {
        long fitting = fittingSets();
        int before = 0;
        for (int set = 0; set < 1 << KITES; set++) {
            if ((fitting >> set & 1) != 0) {
                if (before == i) {
                    return set;
                }
                before++;
            }
        }
        return NONE;
    }

    public int lots(int seed, int nights, int minutes, int high, int what) {
        boolean known = isWithin(seed, 0, LAST_SEED) && isWithin(nights, 1, MOST_NIGHTS)
            && isWithin(minutes, 1, LONGEST_NIGHT) && isHeight(high) && isWithin(what, 0, 1);
        if (!known) {
            return NONE;
        }
        long drawn = seed;
        int often = 0;
        int least = TOP;
        for (int i = 0; i < nights; i++) {
            ahead.take(now);
            for (int j = 0; j < minutes; j++) {
                drawn = (drawn * 1103515245L + 12345L) % 2147483648L;
                air.look(ahead, ahead.minute, gustOf(drawn));
                often += air.high >= high ? 1 : 0;
                least = Math.min(least, air.high);
                ahead.passMinute(air);
            }
        }
        return what == 0 ? often : least;
    }

    public boolean mark(int mark, boolean back) {
        if (!isWithin(mark, 0, MARKS - 1)) {
            return false;
        }
        if (!back) {
            marks[mark].take(now);
            laid |= 1 << mark;
            return true;
        }
        if ((laid >> mark & 1) == 0) {
            return false;
        }
        now.take(marks[mark]);
        return true;
    }

    public int count(int what) {
        switch (what) {
            case 0:
                return now.sky.kites;
            case 1:
                return now.minute;
            case 2:
                return now.sky.weight;
            case 3:
                return now.sky.haul;
            case 4:
                return now.sky.tired;
            case 5:
                return now.sky.gusts;
            case 6:
                return Integer.bitCount(now.lost);
            case 7:
                return now.notes;
            case 8:
                return signs;
            default:
                return NONE;
        }
    }

    private void feedEight(long signsOfLong) {
        for (int shift = 56; shift >= 0; shift -= 8) {
            int sign = (int) (signsOfLong >> shift & 255);
            if ((sign == 10 || isWithin(sign, 32, 126)) && signs < SIGNS) {
                tape[signs] = (byte) sign;
                signs++;
            }
        }
    }

    private boolean isKite(int kite) {
        return isWithin(kite, 0, now.sky.kites - 1);
    }

    private static boolean isHeight(int high) {
        return isWithin(high, 0, TOP);
    }

    private static boolean isSpot(int place, int high) {
        return isWithin(place, 0, LAST_PLACE) && isHeight(high);
    }

    private static boolean isWithin(int number, int low, int top) {
        return number >= low && number <= top;
    }

    private static int clamped(int number, int low, int top) {
        return number < low ? low : number > top ? top : number;
    }

    private static int distance(int place, int high, int otherPlace, int otherHigh) {
        return Math.abs(place - otherPlace) + Math.abs(high - otherHigh);
    }

    private static long commonDivisor(long a, long b) {
        long greater = a;
        long less = b;
        // Euclid's remainders of numbers below 2^32 are at 0 long before 64 turns.
        for (int turn = 0; turn < 64 && less != 0; turn++) {
            long rest = greater % less;
            greater = less;
            less = rest;
        }
        return greater;
    }

    private int gustOf(long drawn) {
        int below = now.sky.gusts + 1;
        return below < 1 ? 0 : (int) (drawn / 65536 % below);
    }

    /** The kites, as bits, that keep the lamp so high when all others are LOST; NONE if no set does. */
    private int fewestKept(int high) {
        air.feel(now, now.minute, 0);
        int all = (1 << now.sky.kites) - 1;
        int best = NONE;
        for (int kept = 0; kept <= all; kept++) {
            boolean fewer = best == NONE || Integer.bitCount(kept) < Integer.bitCount(best);
            if ((kept & now.lost) == 0 && fewer) {
                air.hang(now, all & ~kept);
                best = air.high >= high ? kept : best;
            }
        }
        return best;
    }

    /** Bit s is set if the SET whose bits are s FITS: six kites have just 64 SETS. */
    private long fittingSets() {
        int sets = 1 << now.sky.kites;
        long fitting = sets >= 64 ? -1L : (1L << sets) - 1;
        for (int i = 0; i < now.notes; i++) {
            air.feel(now, now.noteMinutes[i], 0);
            for (int set = 0; set < sets; set++) {
                if ((fitting >> set & 1) != 0 && !isSeen(set, i)) {
                    fitting &= ~(1L << set);
                }
            }
        }
        return fitting;
    }

    private boolean isSeen(int lost, int note) {
        air.hang(now, lost);
        if (air.high != now.noteHighs[note]) {
            return false;
        }
        air.lean(now, lost);
        return air.place == now.notePlaces[note];
    }

    /** A sky as it was told; nothing in it changes once it has been read, so nights share it. */
    private static final class Sky {
        private static final int[] UNTOLD = {};

        int kites;
        final int[] kinds = new int[KITES];
        final int[] winches = new int[KITES];
        final int[] lifts = new int[KITES];
        final int[] leasts = new int[KITES];
        final int[] lengths = new int[KITES];
        int weight = 20;
        int haul = 2;
        int tired = 5;
        int gusts = 0;
        int[] windLaw = UNTOLD;
        int[] ruleLaw = UNTOLD;

        boolean hasWind() {
            return windLaw.length > 0;
        }

        boolean hasRule() {
            return ruleLaw.length > 0;
        }

        /** What a kite pulls in a wind at its length, or NONE if it hangs SLACK there. */
        int pullOf(int kite, int length, int wind) {
            int kind = kinds[kite];
            int least = kind == TAIL ? leasts[kite] / 2 : leasts[kite];
            if (length <= 0 || wind < least) {
                return NONE;
            }
            int pull = lifts[kite] * wind / 10;
            if (kind == BOX && wind >= 40) {
                return 2 * pull;
            }
            return kind == HEAVY ? Math.max(0, pull - 3) : pull;
        }
    }

    /** A sky and all that is so in it in one minute. */
    private static final class Night {
        Sky sky;
        int minute;
        int lost;
        int notes;
        final int[] lengths = new int[KITES];
        final int[] whistles = new int[KITES];
        final int[] hauled = new int[KITES];
        final int[] noteMinutes = new int[NOTES];
        final int[] notePlaces = new int[NOTES];
        final int[] noteHighs = new int[NOTES];

        Night(Sky first) {
            sky = first;
        }

        void begin(Sky told) {
            sky = told;
            minute = 0;
            lost = 0;
            notes = 0;
            System.arraycopy(told.lengths, 0, lengths, 0, KITES);
            Arrays.fill(whistles, NONE);
            Arrays.fill(hauled, 0);
        }

        void take(Night other) {
            sky = other.sky;
            minute = other.minute;
            lost = other.lost;
            notes = other.notes;
            System.arraycopy(other.lengths, 0, lengths, 0, KITES);
            System.arraycopy(other.whistles, 0, whistles, 0, KITES);
            System.arraycopy(other.hauled, 0, hauled, 0, KITES);
            System.arraycopy(other.noteMinutes, 0, noteMinutes, 0, NOTES);
            System.arraycopy(other.notePlaces, 0, notePlaces, 0, NOTES);
            System.arraycopy(other.noteHighs, 0, noteHighs, 0, NOTES);
        }

        boolean isLost(int kite) {
            return (lost >> kite & 1) != 0;
        }

        /** The air must have been looked at in this minute if a rule is told: boys haul by what was so. */
        void passMinute(Air air) {
            for (int k = 0; k < sky.kites; k++) {
                if (!isLost(k)) {
                    haulTo(k, rests(k) ? lengths[k] : aim(k, air));
                }
            }
            minute++;
        }

        void haulDown() {
            for (int k = 0; k < sky.kites; k++) {
                if (!isLost(k)) {
                    haulTo(k, rests(k) ? lengths[k] : Math.max(0, lengths[k] - sky.haul));
                }
            }
            minute++;
        }

        boolean isAllDown() {
            for (int k = 0; k < sky.kites; k++) {
                if (!isLost(k) && lengths[k] > 0) {
                    return false;
                }
            }
            return true;
        }

        private boolean rests(int kite) {
            return hauled[kite] >= sky.tired || sky.kinds[kite] == LAZY && (minute & 1) == 1;
        }

        private int aim(int kite, Air air) {
            int out = 0;
            if (whistles[kite] != NONE) {
                out = whistles[kite] - lengths[kite];
            } else if (sky.hasRule()) {
                out = air.ruled(this, kite);
            }
            // Cut to the haul before it is added: a rule may ask for any int.
            return clamped(lengths[kite] + clamped(out, -sky.haul, sky.haul), 0, TOP);
        }

        private void haulTo(int kite, int length) {
            hauled[kite] = length == lengths[kite] ? 0 : hauled[kite] + 1;
            lengths[kite] = length;
            if (whistles[kite] == length) {
                whistles[kite] = NONE;
            }
        }
    }

    /** The wind in one minute, what the kites pull in it, and where the lamp hangs by that. */
    private static final class Air {
        private final Reckoner reckoner = new Reckoner();
        final int[] winds = new int[KITES];
        final int[] pulls = new int[KITES];
        int slack;
        int raw;
        int high;
        int place;
        private Sky sky;
        private int minute;
        private int gust;

        Air(Sky first) {
            sky = first;
        }

        int windAt(Sky over, int height, int inMinute, int inGust) {
            if (!over.hasWind()) {
                return 20;
            }
            reckoner.facts[Token.HIGH] = height;
            reckoner.facts[Token.MINUTE] = inMinute;
            reckoner.facts[Token.GUST] = inGust;
            return clamped(reckoner.reckon(over.windLaw), 0, 99);
        }

        void look(Night night, int inMinute, int inGust) {
            feel(night, inMinute, inGust);
            hang(night, night.lost);
            lean(night, night.lost);
        }

        /** Pulls as if no kite were LOST, so that one feel serves for many sets of LOST ones. */
        void feel(Night night, int inMinute, int inGust) {
            sky = night.sky;
            minute = inMinute;
            gust = inGust;
            slack = 0;
            for (int k = 0; k < sky.kites; k++) {
                winds[k] = windAt(sky, night.lengths[k], minute, gust);
                int pull = sky.pullOf(k, night.lengths[k], winds[k]);
                pulls[k] = pull == NONE ? 0 : pull;
                slack |= pull == NONE ? 1 << k : 0;
            }
        }

        void hang(Night night, int lost) {
            raw = rawHeight(night, lost);
            high = Math.max(0, raw - Integer.bitCount(slack & ~lost));
        }

        void lean(Night night, int lost) {
            int pull = 0;
            int moment = 0;
            for (int k = 0; k < sky.kites; k++) {
                if ((lost >> k & 1) == 0 && night.lengths[k] >= raw) {
                    pull += pulls[k];
                    moment += pulls[k] * sky.winches[k];
                }
            }
            place = (pull > 0 ? moment / pull : 0) + windAt(sky, high, minute, gust) / 5;
        }

        int ruled(Night night, int kite) {
            reckoner.facts[Token.LONG] = night.lengths[kite];
            reckoner.facts[Token.PULL] = pulls[kite];
            reckoner.facts[Token.HIGH] = high;
            reckoner.facts[Token.LEAN] = place - sky.winches[kite];
            reckoner.facts[Token.WIND] = winds[kite];
            reckoner.facts[Token.MINUTE] = minute;
            return reckoner.reckon(sky.ruleLaw);
        }

        /** Pulls above a height fall only behind a line's end, so only lengths can be the greatest. */
        private int rawHeight(Night night, int lost) {
            if (sky.weight <= 0) {
                return TOP;
            }
            int best = 0;
            for (int k = 0; k < sky.kites; k++) {
                int length = night.lengths[k];
                if (length > best && (lost >> k & 1) == 0 && pullFrom(night, length, lost) >= sky.weight) {
                    best = length;
                }
            }
            return best;
        }

        private int pullFrom(Night night, int height, int lost) {
            int sum = 0;
            for (int k = 0; k < sky.kites; k++) {
                if ((lost >> k & 1) == 0 && night.lengths[k] >= height) {
                    sum += pulls[k];
                }
            }
            return sum;
        }
    }

    /** Tries the lengths near those of now, one raw height of the lamp after the other. */
    private static final class Search {
        /** A length takes 6 bits, so a score's order is that of away, then changed, then kite 0's length and on. */
        private static final int LENGTH_BITS = 6;
        private static final int CHANGED_SHIFT = KITES * LENGTH_BITS;
        private static final int AWAY_SHIFT = CHANGED_SHIFT + 3;

        private final int[] winds = new int[HEIGHTS];
        private final int[] pulls = new int[KITES * HEIGHTS];
        private final int[] shortest = new int[KITES];
        private final int[] longest = new int[KITES];
        /** The most that kites from one on can add to the pull at the raw height. */
        private final int[] reach = new int[KITES + 1];
        private int[] lengths = {};
        private int[] winches = {};
        private int kites;
        private int weight;
        private int wantedPlace;
        private int wantedHigh;
        /** How far every PLACE that these winches and winds allow is from the wanted one at least. */
        private int gap;
        private boolean byAway;
        /** Nothing that is more AWAY than this counts. */
        private int bound;
        private int raw;
        private long best;

        void seekNearest(Night night, Air air, int place, int high) {
            byAway = true;
            bound = Integer.MAX_VALUE;
            seek(night, air, place, high, 2);
        }

        boolean seekFewest(Night night, Air air, int place, int high, int away, int each) {
            byAway = false;
            bound = away;
            seek(night, air, place, high, each);
            return best != Long.MAX_VALUE;
        }

        int bestAway() {
            return (int) (best >> AWAY_SHIFT);
        }

        /** Reads as 7, more than there are kites, as long as nothing is found. */
        int bestChanged() {
            return (int) (best >> CHANGED_SHIFT & 7);
        }

        int bestLength(int kite) {
            return (int) (best >> LENGTH_BITS * (kites - 1 - kite) & 63);
        }

        private void seek(Night night, Air air, int place, int high, int each) {
            kites = Math.min(night.sky.kites, KITES);
            weight = night.sky.weight;
            lengths = night.lengths;
            winches = night.sky.winches;
            wantedPlace = place;
            wantedHigh = high;
            best = Long.MAX_VALUE;
            for (int height = 0; height <= TOP; height++) {
                winds[height] = air.windAt(night.sky, height, night.minute, 0);
            }
            for (int k = 0; k < kites; k++) {
                spread(night, k, each);
            }
            reckonGap();
            for (int height = TOP; height >= 0; height--) {
                raw = height;
                reckonReach();
                choose(0, 0, 0, 0, 0, 0, 0L);
            }
        }

        /** A LOST kite has one length and pulls nothing, but is not SLACK. */
        private void spread(Night night, int kite, int each) {
            boolean gone = night.isLost(kite);
            int length = clamped(night.lengths[kite], 0, TOP);
            shortest[kite] = gone ? length : Math.max(0, length - each);
            longest[kite] = gone ? length : Math.min(TOP, length + each);
            for (int i = shortest[kite]; i <= longest[kite]; i++) {
                pulls[kite * HEIGHTS + i] = gone ? 0 : night.sky.pullOf(kite, i, winds[i]);
            }
        }

        private void reckonGap() {
            int winch = 0;
            for (int k = 0; k < kites; k++) {
                winch = Math.max(winch, winches[k]);
            }
            int wind = 0;
            for (int height = 0; height <= TOP; height++) {
                wind = Math.max(wind, winds[height]);
            }
            gap = Math.max(0, wantedPlace - winch - wind / 5);
        }

        private void reckonReach() {
            reach[kites] = 0;
            for (int k = kites - 1; k >= 0; k--) {
                int most = 0;
                for (int i = Math.max(raw, shortest[k]); i <= longest[k]; i++) {
                    most = Math.max(most, pulls[k * HEIGHTS + i]);
                }
                reach[k] = reach[k + 1] + most;
            }
        }

        /** At and above: the pulls at the raw height and above it, of the kites before this one. */
        private void choose(int kite, int at, int above, int moment, int slack, int changed, long key) {
            if (isHopeless(at + reach[kite], above, slack, changed)) {
                return;
            }
            if (kite >= kites) {
                judge(at, moment, slack, changed, key);
                return;
            }
            for (int length = shortest[kite]; length <= longest[kite]; length++) {
                int pull = pulls[kite * HEIGHTS + length];
                int held = length >= raw ? Math.max(0, pull) : 0;
                choose(kite + 1, at + held, length > raw ? above + held : above, moment + held * winches[kite],
                    pull == NONE ? slack + 1 : slack, length == lengths[kite] ? changed : changed + 1,
                    key << LENGTH_BITS | length);
            }
        }

        /** Whatever the kites to come do: not this raw height, no fewer changed, or too far AWAY. */
        private boolean isHopeless(int mostAt, int above, int slack, int changed) {
            if (raw < TOP && above >= weight || raw > 0 && mostAt < weight || !byAway && changed >= bestChanged()) {
                return true;
            }
            int tooLow = wantedHigh - Math.max(0, raw - slack);
            int tooHigh = raw - kites - wantedHigh;
            return gap + Math.max(0, Math.max(tooLow, tooHigh)) > bound;
        }

        private void judge(int at, int moment, int slack, int changed, long key) {
            int high = Math.max(0, raw - slack);
            int place = (at > 0 ? moment / at : 0) + winds[high] / 5;
            int away = distance(place, high, wantedPlace, wantedHigh);
            if (away > bound) {
                return;
            }
            long score = ((long) (byAway ? away : 0) << AWAY_SHIFT) + ((long) changed << CHANGED_SHIFT) + key;
            if (score < best) {
                best = score;
                bound = byAway ? away : bound;
            }
        }
    }

    /** Works out a law of wind or hauling; its parts stand in the order in which they are used. */
    private static final class Reckoner {
        /** Numbers stand as they are, facts below 0, operations from here on. */
        static final int OPERATION = 10000;
        /** Within 5 levels at most four left sides wait at each: 21 numbers at once. */
        private static final int WAITING = 32;

        final int[] facts = new int[Token.WORDS];
        private final int[] stack = new int[WAITING];

        static int factCode(int token) {
            return -1 - token;
        }

        int reckon(int[] law) {
            int top = 0;
            for (int i = 0; i < law.length; i++) {
                int code = law[i];
                if (code == OPERATION + Token.NOT) {
                    if (top >= 1) {
                        stack[top - 1] = stack[top - 1] == 0 ? 1 : 0;
                    }
                } else if (code >= OPERATION) {
                    if (top >= 2) {
                        top--;
                        stack[top - 1] = joined(code - OPERATION, stack[top - 1], stack[top]);
                    }
                } else if (top < WAITING) {
                    stack[top] = code >= 0 ? code : fact(-1 - code);
                    top++;
                }
            }
            return top >= 1 ? stack[top - 1] : 0;
        }

        private int fact(int token) {
            return token < facts.length ? facts[token] : 0;
        }

        private static int joined(int operation, int left, int right) {
            switch (operation) {
                case Token.AND:
                    return left != 0 && right != 0 ? 1 : 0;
                case Token.OR:
                    return left != 0 || right != 0 ? 1 : 0;
                case Token.LESS:
                    return left < right ? 1 : 0;
                case Token.EQUAL:
                    return left == right ? 1 : 0;
                case Token.PLUS:
                    return left + right;
                case Token.MINUS:
                    return left - right;
                default:
                    return left * right;
            }
        }
    }

    /** The numbers of tokens: the words in the order of TOLD, then all else. */
    private static final class Token {
        static final String TOLD = "wind rule lamp haul tired gusts kite at lift least long plain box tail heavy deaf lazy not and or high minute gust pull lean ";
        static final int WIND = 0;
        static final int RULE = 1;
        static final int LAMP = 2;
        static final int HAUL = 3;
        static final int TIRED = 4;
        static final int GUSTS = 5;
        static final int KITE = 6;
        static final int AT = 7;
        static final int LIFT = 8;
        static final int LEAST = 9;
        static final int LONG = 10;
        static final int PLAIN = 11;
        static final int LAZY_WORD = 16;
        static final int NOT = 17;
        static final int AND = 18;
        static final int OR = 19;
        static final int HIGH = 20;
        static final int MINUTE = 21;
        static final int GUST = 22;
        static final int PULL = 23;
        static final int LEAN = 24;
        static final int WORDS = 25;
        static final int OTHER_WORD = 25;
        static final int NUMBER = 26;
        static final int OPEN = 27;
        static final int CLOSE = 28;
        static final int LESS = 29;
        static final int EQUAL = 30;
        static final int PLUS = 31;
        static final int MINUS = 32;
        static final int TIMES = 33;
        static final int STOP = 34;
        static final int END = 35;
        static final int NOTHING = 36;

        static int ofSign(int sign) {
            switch (sign) {
                case '(':
                    return OPEN;
                case ')':
                    return CLOSE;
                case '<':
                    return LESS;
                case '=':
                    return EQUAL;
                case '+':
                    return PLUS;
                case '-':
                    return MINUS;
                case '*':
                    return TIMES;
                case ';':
                    return STOP;
                default:
                    return NOTHING;
            }
        }

        /** The words up to "or" have a meaning of their own and name no kite; facts of a law may. */
        static boolean isName(int token) {
            return token > OR && token <= OTHER_WORD;
        }

        static boolean isFact(int token, int law) {
            if (token == HIGH || token == MINUTE) {
                return true;
            }
            if (law == WIND) {
                return token == GUST;
            }
            return token == LONG || token == PULL || token == LEAN || token == WIND;
        }
    }

    /** Cuts the tape into tokens, one at a time. */
    private static final class Cutter {
        private static final int LONGEST_WORD = 8;
        private static final int LONGEST_NUMBER = 4;

        private byte[] text = {};
        private final long[] words = new long[Token.WORDS];
        private int length;
        private int next;
        int place;
        int token;
        int number;
        long word;

        Cutter() {
            int at = 0;
            for (int i = 0; i < Token.TOLD.length(); i++) {
                char sign = Token.TOLD.charAt(i);
                if (sign == ' ') {
                    at++;
                } else if (at < Token.WORDS) {
                    words[at] = withLetter(words[at], sign);
                }
            }
        }

        void open(byte[] tape, int signs) {
            text = tape;
            length = clamped(signs, 0, tape.length);
            next = 0;
            step();
        }

        /** From here on there is nothing but the end. */
        void close() {
            next = length;
            place = length;
            token = Token.END;
        }

        void step() {
            while (next < length && (text[next] == ' ' || text[next] == 10)) {
                next++;
            }
            place = next;
            if (next >= length) {
                token = Token.END;
            } else if (isLetter(text[next])) {
                token = stepWord();
            } else if (isDigit(text[next])) {
                token = stepNumber();
            } else {
                token = Token.ofSign(text[next]);
                next++;
            }
        }

        private int stepWord() {
            word = 0;
            while (next < length && isLetter(text[next])) {
                word = withLetter(word, text[next]);
                next++;
            }
            if (next - place > LONGEST_WORD) {
                return Token.NOTHING;
            }
            for (int i = 0; i < Token.WORDS; i++) {
                if (words[i] == word) {
                    return i;
                }
            }
            return Token.OTHER_WORD;
        }

        private int stepNumber() {
            number = 0;
            while (next < length && isDigit(text[next])) {
                number = number * 10 + text[next] - '0';
                next++;
            }
            return next - place > LONGEST_NUMBER ? Token.NOTHING : Token.NUMBER;
        }

        /** Eight letters of 5 bits fit a long, so words are compared as numbers. */
        private static long withLetter(long spelt, int letter) {
            return spelt << 5 | letter - 'a' + 1;
        }

        private static boolean isLetter(int sign) {
            return sign >= 'a' && sign <= 'z';
        }

        private static boolean isDigit(int sign) {
            return sign >= '0' && sign <= '9';
        }
    }

    /** Reads a sky from the tape; the first wrong token is its fault, and what comes behind counts no more. */
    private static final class SkyReader {
        private static final int CANNOT_STAND = 1;
        private static final int TOLD_ALREADY = 3;
        private static final int NOT_AS_TOLD = 4;
        private static final int TOO_MANY = 5;
        private static final int DEEPEST = 5;

        private final Cutter cutter = new Cutter();
        private final long[] names = new long[KITES];
        private final int[] code = new int[SIGNS];
        private int fault;
        private int told;
        private int codes;
        private int law;
        private Sky sky;

        SkyReader(Sky first) {
            sky = first;
        }

        int read(byte[] tape, int signs, Sky into) {
            fault = 0;
            told = 0;
            sky = into;
            cutter.open(tape, signs);
            for (int i = 0; i <= SIGNS && cutter.token != Token.END; i++) {
                if (cutter.token == Token.KITE) {
                    readKite();
                } else if (cutter.token <= Token.GUSTS) {
                    readOnce(cutter.token);
                } else {
                    fail(CANNOT_STAND);
                }
                expect(Token.STOP);
            }
            return fault;
        }

        private void readOnce(int about) {
            if ((told >> about & 1) != 0) {
                fail(TOLD_ALREADY);
                return;
            }
            told |= 1 << about;
            cutter.step();
            switch (about) {
                case Token.WIND:
                    sky.windLaw = readLaw(about);
                    break;
                case Token.RULE:
                    sky.ruleLaw = readLaw(about);
                    break;
                case Token.LAMP:
                    sky.weight = readNumber(0, 999);
                    break;
                case Token.HAUL:
                    sky.haul = readNumber(1, 5);
                    break;
                case Token.TIRED:
                    sky.tired = readNumber(1, 20);
                    break;
                default:
                    sky.gusts = readNumber(0, 50);
                    break;
            }
        }

        private void readKite() {
            int kite = sky.kites;
            if (kite >= KITES) {
                fail(TOO_MANY);
                return;
            }
            cutter.step();
            names[kite] = readName(kite);
            sky.kinds[kite] = readKind();
            expect(Token.AT);
            sky.winches[kite] = readNumber(0, 99);
            expect(Token.LIFT);
            sky.lifts[kite] = readNumber(1, 20);
            expect(Token.LEAST);
            sky.leasts[kite] = readNumber(0, 99);
            expect(Token.LONG);
            sky.lengths[kite] = readNumber(0, TOP);
            sky.kites = kite + 1;
        }

        private long readName(int before) {
            if (!Token.isName(cutter.token)) {
                fail(CANNOT_STAND);
            }
            long name = cutter.word;
            for (int i = 0; i < before; i++) {
                if (names[i] == name) {
                    fail(TOLD_ALREADY);
                }
            }
            cutter.step();
            return name;
        }

        private int readKind() {
            int kind = cutter.token - Token.PLAIN;
            if (!isWithin(cutter.token, Token.PLAIN, Token.LAZY_WORD)) {
                fail(CANNOT_STAND);
            }
            cutter.step();
            return kind;
        }

        private int readNumber(int low, int top) {
            if (cutter.token != Token.NUMBER) {
                fail(CANNOT_STAND);
            } else if (!isWithin(cutter.number, low, top)) {
                fail(NOT_AS_TOLD);
            }
            int value = cutter.number;
            cutter.step();
            return value;
        }

        private int[] readLaw(int about) {
            law = about;
            codes = 0;
            readTests(0);
            return Arrays.copyOf(code, codes);
        }

        private void readTests(int depth) {
            readTest(depth);
            for (int i = 0; i < SIGNS && (cutter.token == Token.AND || cutter.token == Token.OR); i++) {
                int operation = cutter.token;
                cutter.step();
                readTest(depth);
                put(Reckoner.OPERATION + operation);
            }
        }

        private void readTest(int depth) {
            readSum(depth);
            if (cutter.token == Token.LESS || cutter.token == Token.EQUAL) {
                int operation = cutter.token;
                cutter.step();
                readSum(depth);
                put(Reckoner.OPERATION + operation);
            }
        }

        private void readSum(int depth) {
            readProduct(depth);
            for (int i = 0; i < SIGNS && (cutter.token == Token.PLUS || cutter.token == Token.MINUS); i++) {
                int operation = cutter.token;
                cutter.step();
                readProduct(depth);
                put(Reckoner.OPERATION + operation);
            }
        }

        private void readProduct(int depth) {
            readPart(depth);
            for (int i = 0; i < SIGNS && cutter.token == Token.TIMES; i++) {
                cutter.step();
                readPart(depth);
                put(Reckoner.OPERATION + Token.TIMES);
            }
        }

        private void readPart(int depth) {
            boolean isFact = Token.isFact(cutter.token, law);
            if (!isFact && cutter.token != Token.NUMBER && cutter.token != Token.NOT && cutter.token != Token.OPEN) {
                fail(CANNOT_STAND);
            } else if (depth >= DEEPEST) {
                fail(TOO_MANY);
            } else if (cutter.token == Token.NOT) {
                cutter.step();
                readPart(depth + 1);
                put(Reckoner.OPERATION + Token.NOT);
            } else if (cutter.token == Token.OPEN) {
                cutter.step();
                readTests(depth + 1);
                expect(Token.CLOSE);
            } else {
                put(isFact ? Reckoner.factCode(cutter.token) : cutter.number);
                cutter.step();
            }
        }

        private void put(int entry) {
            if (codes < code.length) {
                code[codes] = entry;
                codes++;
            }
        }

        private void expect(int wanted) {
            if (cutter.token != wanted) {
                fail(CANNOT_STAND);
            }
            cutter.step();
        }

        /** The end takes the wrong token's place, so that whatever still reads stops at it. */
        private void fail(int kind) {
            if (fault == 0) {
                fault = kind + 16 * cutter.place;
            }
            cutter.close();
        }
    }
}
