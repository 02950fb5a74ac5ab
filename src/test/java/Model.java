import java.util.ArrayList;
import java.util.HashMap;
import java.util.List;
import java.util.Map;
import java.util.Set;
import java.util.regex.Matcher;
import java.util.regex.Pattern;

/**
 * The document once more, in the slowest and plainest form that its words allow (every height, every set and every
 * choice of lengths is tried), so that KiteLamp can be held against it on random runs.
 */
final class Model {
    static final List<String> KINDS = List.of("plain", "box", "tail", "heavy", "deaf", "lazy");
    static final Set<String> RESERVED = Set.of("wind", "rule", "lamp", "haul", "tired", "gusts", "kite", "at", "lift",
        "least", "long", "plain", "box", "tail", "heavy", "deaf", "lazy", "not", "and", "or");
    static final Set<String> ONCE = Set.of("wind", "rule", "lamp", "haul", "tired", "gusts");

    interface Expression {
        int value(Map<String, Integer> facts);
    }

    static final class Kite implements Cloneable {
        String kind;
        int winch;
        int lift;
        int least;
        int length;
        int whistle = -1;
        int hauled;
        boolean lost;

        Kite copy() {
            try {
                return (Kite) clone();
            } catch (CloneNotSupportedException e) {
                throw new AssertionError(e);
            }
        }
    }

    static final class State {
        Expression wind;
        Expression rule;
        int weight = 20;
        int haul = 2;
        int tired = 5;
        int gusts;
        int minute;
        List<Kite> kites = new ArrayList<>();
        List<int[]> notes = new ArrayList<>();

        State copy() {
            State other = new State();
            other.wind = wind;
            other.rule = rule;
            other.weight = weight;
            other.haul = haul;
            other.tired = tired;
            other.gusts = gusts;
            other.minute = minute;
            for (Kite kite : kites) {
                other.kites.add(kite.copy());
            }
            other.notes.addAll(notes);
            return other;
        }

        int windAt(int height, int inMinute, int gust) {
            if (wind == null) {
                return 20;
            }
            return Math.min(99, Math.max(0, wind.value(Map.of("high", height, "minute", inMinute, "gust", gust))));
        }
    }

    /** Raw height, HIGH and PLACE, found by trying every height. */
    static final class Lamp {
        final int[] pull;
        final boolean[] flies;
        int raw;
        int high;
        int place;

        Lamp(State state, int inMinute, int gust) {
            int kites = state.kites.size();
            pull = new int[kites];
            flies = new boolean[kites];
            int slack = 0;
            for (int k = 0; k < kites; k++) {
                Kite kite = state.kites.get(k);
                int wind = state.windAt(kite.length, inMinute, gust);
                int least = kite.kind.equals("tail") ? kite.least / 2 : kite.least;
                flies[k] = !kite.lost && kite.length > 0 && wind >= least;
                if (flies[k]) {
                    pull[k] = kite.lift * wind / 10;
                    if (kite.kind.equals("box") && wind >= 40) {
                        pull[k] *= 2;
                    }
                    if (kite.kind.equals("heavy")) {
                        pull[k] = Math.max(0, pull[k] - 3);
                    }
                } else if (!kite.lost) {
                    slack++;
                }
            }
            for (int height = 0; height <= 40; height++) {
                int sum = 0;
                for (int k = 0; k < kites; k++) {
                    sum += state.kites.get(k).length >= height ? pull[k] : 0;
                }
                raw = sum >= state.weight ? height : raw;
            }
            high = Math.max(0, raw - slack);
            int pulls = 0;
            int moments = 0;
            for (int k = 0; k < kites; k++) {
                if (state.kites.get(k).length >= raw) {
                    pulls += pull[k];
                    moments += pull[k] * state.kites.get(k).winch;
                }
            }
            place = (pulls == 0 ? 0 : moments / pulls) + state.windAt(high, inMinute, gust) / 5;
        }

        int away(int toPlace, int toHigh) {
            return Math.abs(place - toPlace) + Math.abs(high - toHigh);
        }
    }

    static final class Fault extends Exception {
        private static final long serialVersionUID = 1L;
        final int code;

        Fault(int kind, int place) {
            code = kind + 16 * place;
        }
    }

    /** Reads the text with a list of all tokens laid out at first. */
    static final class Parser {
        private static final Pattern TOKENS = Pattern.compile("[a-z]+|[0-9]+|[^ \n]");
        private final List<String> tokens = new ArrayList<>();
        private final List<Integer> places = new ArrayList<>();
        private int at;

        Parser(String text) {
            Matcher matcher = TOKENS.matcher(text);
            while (matcher.find()) {
                tokens.add(matcher.group());
                places.add(matcher.start());
            }
            tokens.add("");
            places.add(text.length());
        }

        private String peek() {
            return tokens.get(at);
        }

        private Fault fault(int kind) {
            return new Fault(kind, places.get(at));
        }

        private void eat(String wanted) throws Fault {
            if (!peek().equals(wanted)) {
                throw fault(1);
            }
            at++;
        }

        private int number(int low, int top) throws Fault {
            if (!peek().matches("[0-9]{1,4}")) {
                throw fault(1);
            }
            int value = Integer.parseInt(peek());
            if (value < low || value > top) {
                throw fault(4);
            }
            at++;
            return value;
        }

        State sky() throws Fault {
            State state = new State();
            List<String> told = new ArrayList<>();
            List<String> names = new ArrayList<>();
            while (!peek().isEmpty()) {
                String word = peek();
                if (word.equals("kite")) {
                    if (state.kites.size() == 6) {
                        throw fault(5);
                    }
                    at++;
                    state.kites.add(kite(names));
                } else if (ONCE.contains(word)) {
                    if (told.contains(word)) {
                        throw fault(3);
                    }
                    told.add(word);
                    at++;
                    once(state, word);
                } else {
                    throw fault(1);
                }
                eat(";");
            }
            return state;
        }

        private void once(State state, String word) throws Fault {
            if (word.equals("wind")) {
                state.wind = tests(Set.of("high", "minute", "gust"), 0);
            } else if (word.equals("rule")) {
                state.rule = tests(Set.of("long", "pull", "high", "lean", "wind", "minute"), 0);
            } else if (word.equals("lamp")) {
                state.weight = number(0, 999);
            } else if (word.equals("haul")) {
                state.haul = number(1, 5);
            } else if (word.equals("tired")) {
                state.tired = number(1, 20);
            } else {
                state.gusts = number(0, 50);
            }
        }

        private Kite kite(List<String> names) throws Fault {
            Kite kite = new Kite();
            if (!peek().matches("[a-z]{1,8}") || RESERVED.contains(peek())) {
                throw fault(1);
            }
            if (names.contains(peek())) {
                throw fault(3);
            }
            names.add(peek());
            at++;
            if (!KINDS.contains(peek())) {
                throw fault(1);
            }
            kite.kind = peek();
            at++;
            eat("at");
            kite.winch = number(0, 99);
            eat("lift");
            kite.lift = number(1, 20);
            eat("least");
            kite.least = number(0, 99);
            eat("long");
            kite.length = number(0, 40);
            return kite;
        }

        private Expression tests(Set<String> facts, int within) throws Fault {
            Expression left = test(facts, within);
            while (peek().equals("and") || peek().equals("or")) {
                boolean and = peek().equals("and");
                at++;
                Expression before = left;
                Expression right = test(facts, within);
                left = f -> {
                    boolean a = before.value(f) != 0;
                    boolean b = right.value(f) != 0;
                    return (and ? a && b : a || b) ? 1 : 0;
                };
            }
            return left;
        }

        private Expression test(Set<String> facts, int within) throws Fault {
            Expression left = sum(facts, within);
            if (peek().equals("<") || peek().equals("=")) {
                boolean less = peek().equals("<");
                at++;
                Expression right = sum(facts, within);
                return f -> (less ? left.value(f) < right.value(f) : left.value(f) == right.value(f)) ? 1 : 0;
            }
            return left;
        }

        private Expression sum(Set<String> facts, int within) throws Fault {
            Expression left = product(facts, within);
            while (peek().equals("+") || peek().equals("-")) {
                int sign = peek().equals("+") ? 1 : -1;
                at++;
                Expression before = left;
                Expression right = product(facts, within);
                left = f -> before.value(f) + sign * right.value(f);
            }
            return left;
        }

        private Expression product(Set<String> facts, int within) throws Fault {
            Expression left = part(facts, within);
            while (peek().equals("*")) {
                at++;
                Expression before = left;
                Expression right = part(facts, within);
                left = f -> before.value(f) * right.value(f);
            }
            return left;
        }

        private Expression part(Set<String> facts, int within) throws Fault {
            String token = peek();
            boolean isNumber = token.matches("[0-9]{1,4}");
            if (!isNumber && !facts.contains(token) && !token.equals("not") && !token.equals("(")) {
                throw fault(1);
            }
            if (within == 5) {
                throw fault(5);
            }
            at++;
            if (token.equals("not")) {
                Expression inner = part(facts, within + 1);
                return f -> inner.value(f) == 0 ? 1 : 0;
            }
            if (token.equals("(")) {
                Expression inner = tests(facts, within + 1);
                eat(")");
                return inner;
            }
            if (isNumber) {
                int value = Integer.parseInt(token);
                return f -> value;
            }
            return f -> f.get(token);
        }
    }

    private final StringBuilder tape = new StringBuilder();
    private State now = new State();
    private final State[] marks = new State[4];

    private static boolean outside(int value, int low, int top) {
        return value < low || value > top;
    }

    private boolean noKite(int kite) {
        return outside(kite, 0, now.kites.size() - 1);
    }

    int feed(long a, long b, long c) {
        for (long eight : new long[] {a, b, c}) {
            for (int i = 7; i >= 0; i--) {
                int sign = (int) (eight >>> 8 * i) & 0xff;
                if ((sign == 10 || sign >= 32 && sign <= 126) && tape.length() < 1000) {
                    tape.append((char) sign);
                }
            }
        }
        return tape.length();
    }

    int sky() {
        String text = tape.toString();
        tape.setLength(0);
        try {
            now = new Parser(text).sky();
            return 0;
        } catch (Fault fault) {
            return fault.code;
        }
    }

    int kite(int kite, int what) {
        if (noKite(kite)) {
            return -1;
        }
        Kite one = now.kites.get(kite);
        Lamp lamp = new Lamp(now, now.minute, 0);
        return switch (what) {
            case 0 -> KINDS.indexOf(one.kind);
            case 1 -> one.length;
            case 2 -> lamp.pull[kite];
            case 3 -> one.lost ? 2 : lamp.flies[kite] ? 0 : 1;
            case 4 -> one.whistle;
            case 5 -> one.hauled;
            default -> -1;
        };
    }

    int wind(int high) {
        return outside(high, 0, 40) ? -1 : now.windAt(high, now.minute, 0);
    }

    int lamp(int minute, int what) {
        if (outside(minute, 0, 9999) || outside(what, 0, 2)) {
            return Told.THROWS;
        }
        Lamp lamp = new Lamp(now, minute, 0);
        return what == 0 ? lamp.place : what == 1 ? lamp.high : lamp.raw;
    }

    boolean whistle(int kite, int length) {
        if (noKite(kite) || outside(length, 0, 40)) {
            return false;
        }
        Kite one = now.kites.get(kite);
        if (one.lost || one.kind.equals("deaf")) {
            return false;
        }
        one.whistle = length == one.length ? -1 : length;
        return true;
    }

    boolean lose(int kite, boolean found) {
        if (noKite(kite) || now.kites.get(kite).lost == !found) {
            return false;
        }
        Kite one = now.kites.get(kite);
        one.lost = !found;
        one.whistle = -1;
        one.hauled = 0;
        if (found) {
            one.length = 0;
        }
        return true;
    }

    private static void pass(State state, int gust, boolean allIn) {
        Lamp lamp = new Lamp(state, state.minute, gust);
        State before = state.copy();
        for (int k = 0; k < state.kites.size(); k++) {
            Kite kite = state.kites.get(k);
            if (kite.lost) {
                continue;
            }
            boolean resting = kite.hauled == state.tired || kite.kind.equals("lazy") && state.minute % 2 == 1;
            int length = kite.length;
            if (!resting) {
                int out = 0;
                if (allIn) {
                    out = -40;
                } else if (kite.whistle >= 0) {
                    out = kite.whistle - length;
                } else if (state.rule != null) {
                    Map<String, Integer> facts = new HashMap<>();
                    facts.put("long", length);
                    facts.put("pull", lamp.pull[k]);
                    facts.put("high", lamp.high);
                    facts.put("lean", lamp.place - kite.winch);
                    facts.put("wind", before.windAt(length, before.minute, gust));
                    facts.put("minute", before.minute);
                    out = state.rule.value(facts);
                }
                out = Math.max(-state.haul, Math.min(state.haul, out));
                kite.length = Math.max(0, Math.min(40, length + out));
            }
            kite.hauled = kite.length != length ? kite.hauled + 1 : 0;
            if (kite.whistle == kite.length) {
                kite.whistle = -1;
            }
        }
        state.minute++;
    }

    int run(int minutes) {
        if (outside(minutes, 1, 1000)) {
            return -1;
        }
        for (int i = 0; i < minutes; i++) {
            pass(now, 0, false);
        }
        return now.minute;
    }

    /** All choices of lengths, kite 0's least first. */
    private List<int[]> choices(int each) {
        List<int[]> all = new ArrayList<>();
        all.add(new int[0]);
        for (Kite kite : now.kites) {
            List<int[]> longer = new ArrayList<>();
            for (int[] chosen : all) {
                int spread = kite.lost ? 0 : each;
                for (int length = kite.length - spread; length <= kite.length + spread; length++) {
                    if (length >= 0 && length <= 40) {
                        int[] next = java.util.Arrays.copyOf(chosen, chosen.length + 1);
                        next[chosen.length] = length;
                        longer.add(next);
                    }
                }
            }
            all = longer;
        }
        return all;
    }

    private Lamp lampWith(int[] lengths, State scratch) {
        for (int k = 0; k < lengths.length; k++) {
            scratch.kites.get(k).length = lengths[k];
        }
        return new Lamp(scratch, scratch.minute, 0);
    }

    private int changed(int[] lengths) {
        int changed = 0;
        for (int k = 0; k < lengths.length; k++) {
            changed += lengths[k] != now.kites.get(k).length ? 1 : 0;
        }
        return changed;
    }

    /** The winds of one minute laid out, so that trying every choice stays bearable. */
    private State laidOut() {
        State scratch = now.copy();
        int[] winds = new int[41];
        for (int height = 0; height <= 40; height++) {
            winds[height] = now.windAt(height, now.minute, 0);
        }
        scratch.wind = f -> winds[f.get("high")];
        return scratch;
    }

    int nearest(int place, int high, int what) {
        if (outside(place, 0, 999) || outside(high, 0, 40) || outside(what, 0, now.kites.size() + 1)) {
            return -1;
        }
        State scratch = laidOut();
        int[] best = null;
        int bestAway = 0;
        for (int[] lengths : choices(2)) {
            int away = lampWith(lengths, scratch).away(place, high);
            if (best == null || away < bestAway || away == bestAway && changed(lengths) < changed(best)) {
                best = lengths;
                bestAway = away;
            }
        }
        return what == 0 ? bestAway : what == 1 ? changed(best) : best[what - 2];
    }

    int fewest(int place, int high, int away, int each) {
        if (outside(place, 0, 999) || outside(high, 0, 40) || outside(away, 0, 999) || outside(each, 1, 3)) {
            return -1;
        }
        State scratch = laidOut();
        int best = -1;
        for (int[] lengths : choices(each)) {
            int changed = changed(lengths);
            if ((best < 0 || changed < best) && lampWith(lengths, scratch).away(place, high) <= away) {
                best = changed;
            }
        }
        return best;
    }

    int holds(int place, int high, int away, int minutes) {
        if (outside(place, 0, 999) || outside(high, 0, 40) || outside(away, 0, 999) || outside(minutes, 1, 240)) {
            return -2;
        }
        State ahead = now.copy();
        for (int i = 0; i < minutes; i++) {
            if (new Lamp(ahead, ahead.minute, 0).away(place, high) > away) {
                return i;
            }
            pass(ahead, 0, false);
        }
        return -1;
    }

    private Lamp lampWithout(int lost, int minute) {
        State scratch = now.copy();
        for (int k = 0; k < scratch.kites.size(); k++) {
            scratch.kites.get(k).lost = (lost >> k & 1) == 1;
        }
        return new Lamp(scratch, minute, 0);
    }

    private int lostBits() {
        int bits = 0;
        for (int k = 0; k < now.kites.size(); k++) {
            bits |= now.kites.get(k).lost ? 1 << k : 0;
        }
        return bits;
    }

    int mayGo(int high) {
        if (outside(high, 0, 40)) {
            return -1;
        }
        int bits = 0;
        for (int k = 0; k < now.kites.size(); k++) {
            if (!now.kites.get(k).lost && lampWithout(lostBits() | 1 << k, now.minute).high >= high) {
                bits |= 1 << k;
            }
        }
        return bits;
    }

    int needed(int high, int what) {
        if (outside(high, 0, 40) || outside(what, 0, 1)) {
            return -1;
        }
        int all = (1 << now.kites.size()) - 1;
        for (int many = 0; many <= now.kites.size(); many++) {
            for (int kept = 0; kept <= all; kept++) {
                boolean there = (kept & lostBits()) == 0 && Integer.bitCount(kept) == many;
                if (there && lampWithout(all - kept, now.minute).high >= high) {
                    return what == 0 ? many : kept;
                }
            }
        }
        return -1;
    }

    long mean(int minutes, int what) {
        if (outside(minutes, 1, 240) || outside(what, 0, 3)) {
            return -1;
        }
        State ahead = now.copy();
        List<Integer> places = new ArrayList<>();
        for (int i = 0; i < minutes; i++) {
            places.add(new Lamp(ahead, ahead.minute, 0).place);
            pass(ahead, 0, false);
        }
        if (what == 2) {
            return java.util.Collections.min(places);
        }
        if (what == 3) {
            return java.util.Collections.max(places);
        }
        java.math.BigInteger sum = java.math.BigInteger.ZERO;
        for (int place : places) {
            sum = sum.add(java.math.BigInteger.valueOf(place));
        }
        java.math.BigInteger below = java.math.BigInteger.valueOf(minutes);
        return (what == 0 ? sum : below).divide(sum.gcd(below)).longValue();
    }

    int down() {
        State ahead = now.copy();
        int minutes = 0;
        while (ahead.kites.stream().anyMatch(kite -> !kite.lost && kite.length > 0)) {
            pass(ahead, 0, true);
            minutes++;
        }
        return minutes;
    }

    int note(int minute, int place, int high) {
        if (outside(minute, 0, 9999) || outside(place, 0, 999) || outside(high, 0, 40) || now.notes.size() == 10) {
            return -1;
        }
        now.notes.add(new int[] {minute, place, high});
        return now.notes.size();
    }

    boolean clear() {
        now.notes.clear();
        return true;
    }

    private List<Integer> fitting() {
        List<Integer> sets = new ArrayList<>();
        for (int set = 0; set < 1 << now.kites.size(); set++) {
            boolean fits = true;
            for (int[] note : now.notes) {
                Lamp lamp = lampWithout(set, note[0]);
                fits &= lamp.place == note[1] && lamp.high == note[2];
            }
            if (fits) {
                sets.add(set);
            }
        }
        return sets;
    }

    int fits() {
        return fitting().size();
    }

    int fit(int i) {
        List<Integer> sets = fitting();
        return outside(i, 0, sets.size() - 1) ? -1 : sets.get(i);
    }

    int lots(int seed, int nights, int minutes, int high, int what) {
        if (outside(seed, 0, 9999) || outside(nights, 1, 20) || outside(minutes, 1, 60) || outside(high, 0, 40)
            || outside(what, 0, 1)) {
            return -1;
        }
        long g = seed;
        int often = 0;
        int least = 40;
        for (int night = 0; night < nights; night++) {
            State ahead = now.copy();
            for (int i = 0; i < minutes; i++) {
                g = g * 1103515245L + 12345L & 0x7fffffffL;
                int gust = (int) (g / 65536 % (now.gusts + 1));
                Lamp lamp = new Lamp(ahead, ahead.minute, gust);
                often += lamp.high >= high ? 1 : 0;
                least = Math.min(least, lamp.high);
                pass(ahead, gust, false);
            }
        }
        return what == 0 ? often : least;
    }

    boolean mark(int mark, boolean back) {
        if (outside(mark, 0, 3) || back && marks[mark] == null) {
            return false;
        }
        if (back) {
            now = marks[mark].copy();
        } else {
            marks[mark] = now.copy();
        }
        return true;
    }

    int count(int what) {
        return switch (what) {
            case 0 -> now.kites.size();
            case 1 -> now.minute;
            case 2 -> now.weight;
            case 3 -> now.haul;
            case 4 -> now.tired;
            case 5 -> now.gusts;
            case 6 -> Integer.bitCount(lostBits());
            case 7 -> now.notes.size();
            case 8 -> tape.length();
            default -> -1;
        };
    }
}
