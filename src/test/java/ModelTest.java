import java.util.List;
import java.util.Random;

/** Random runs of calls on KiteLamp and on the Model beside it: all promises, with right and wrong arguments. */
public final class ModelTest {
    private static final int CALLS = 130;

    private final Random random;
    private final Skies skies;
    private final KiteLamp lamp = new KiteLamp();
    private final Model model = new Model();
    private final String run;

    private ModelTest(long seed) {
        random = new Random(seed);
        skies = new Skies(random);
        run = "run " + seed + ": ";
    }

    public static void main(String[] args) {
        long first = args.length > 0 ? Long.parseLong(args[0]) : 1;
        long runs = args.length > 1 ? Long.parseLong(args[1]) : 400;
        for (long seed = first; seed < first + runs && !Check.anyWrong(); seed++) {
            new ModelTest(seed).play();
        }
        Check.finish("ModelTest");
    }

    private void play() {
        for (int i = 0; i < CALLS; i++) {
            if (i == 0 || random.nextInt(40) == 0) {
                tell(random.nextInt(100) < (i == 0 ? 5 : 40));
            } else {
                call();
            }
        }
    }

    private void tell(boolean spoilt) {
        List<String> tokens = skies.tokens(random.nextInt(7));
        if (spoilt) {
            skies.spoil(tokens);
        }
        String text = skies.text(tokens);
        for (int from = 0; from < text.length(); from += 24) {
            feed(Told.packed(text, from));
        }
        Check.same(run + "sky() of " + text, lamp.sky(), model.sky());
    }

    private void feed(long[] three) {
        Check.same(run + "feed", lamp.feed(three[0], three[1], three[2]), model.feed(three[0], three[1], three[2]));
    }

    /** Mostly within, now and then just outside or far away. */
    private int some(int low, int top) {
        int drawn = random.nextInt(60);
        if (drawn == 0) {
            return low - 1;
        }
        if (drawn == 1) {
            return top + 1;
        }
        if (drawn == 2) {
            return random.nextInt();
        }
        if (drawn == 3) {
            return random.nextBoolean() ? Integer.MIN_VALUE : Integer.MAX_VALUE;
        }
        return drawn == 4 ? low : drawn == 5 ? top : low + random.nextInt(top - low + 1);
    }

    private int somePlace() {
        return random.nextInt(5) == 0 ? some(0, 999) : some(0, 120);
    }

    private int someKite() {
        return some(0, Math.max(1, model.count(0)) - 1);
    }

    private void call() {
        int drawn = random.nextInt(34);
        if (drawn < 11) {
            callOfNow(drawn);
        } else if (drawn < 23) {
            callOfAhead(drawn);
        } else {
            callOfBook(drawn);
        }
    }

    private void callOfNow(int drawn) {
        int kite = someKite();
        int high = some(0, 40);
        int what = some(0, 5);
        switch (drawn) {
            case 0, 1 -> Check.same(run + "kite(" + kite + ", " + what + ")", lamp.kite(kite, what),
                model.kite(kite, what));
            case 2 -> Check.same(run + "wind(" + high + ")", lamp.wind(high), model.wind(high));
            case 3 -> {
                int minute = random.nextBoolean() ? some(0, 40) : some(0, 9999);
                int of = some(0, 2);
                Check.same(run + "lamp(" + minute + ", " + of + ")", Told.lamp(lamp, minute, of),
                    model.lamp(minute, of));
            }
            case 4, 5 -> Check.same(run + "whistle(" + kite + ", " + high + ")", lamp.whistle(kite, high),
                model.whistle(kite, high));
            case 6 -> {
                boolean found = random.nextBoolean();
                Check.same(run + "lose(" + kite + ", " + found + ")", lamp.lose(kite, found),
                    model.lose(kite, found));
            }
            case 7, 8, 9 -> {
                int minutes = random.nextInt(8) == 0 ? some(1, 1000) : some(1, 6);
                Check.same(run + "run(" + minutes + ")", lamp.run(minutes), model.run(minutes));
            }
            default -> {
                int of = some(0, 8);
                Check.same(run + "count(" + of + ")", lamp.count(of), model.count(of));
            }
        }
    }

    private void callOfAhead(int drawn) {
        int place = somePlace();
        int high = some(0, 40);
        int away = random.nextInt(4) == 0 ? some(0, 999) : some(0, 40);
        int minutes = random.nextInt(4) == 0 ? some(1, 240) : some(1, 12);
        switch (drawn) {
            case 11, 12 -> {
                int what = some(0, model.count(0) + 1);
                Check.same(run + "nearest(" + place + ", " + high + ", " + what + ")", lamp.nearest(place, high, what),
                    model.nearest(place, high, what));
            }
            case 13, 14 -> {
                // Three either way of six kites are 117,649 choices for the Model: asked rarely.
                int each = model.count(0) - model.count(6) > 4 && random.nextInt(8) > 0 ? some(1, 1) : some(1, 3);
                Check.same(run + "fewest(" + place + ", " + high + ", " + away + ", " + each + ")",
                    lamp.fewest(place, high, away, each), model.fewest(place, high, away, each));
            }
            case 15, 16 -> Check.same(run + "holds(" + place + ", " + high + ", " + away + ", " + minutes + ")",
                lamp.holds(place, high, away, minutes), model.holds(place, high, away, minutes));
            case 17 -> Check.same(run + "mayGo(" + high + ")", lamp.mayGo(high), model.mayGo(high));
            case 18, 19 -> {
                int what = some(0, 1);
                Check.same(run + "needed(" + high + ", " + what + ")", lamp.needed(high, what),
                    model.needed(high, what));
            }
            case 20, 21 -> {
                int what = some(0, 3);
                Check.same(run + "mean(" + minutes + ", " + what + ")", lamp.mean(minutes, what),
                    model.mean(minutes, what));
            }
            default -> Check.same(run + "down()", lamp.down(), model.down());
        }
    }

    private void callOfBook(int drawn) {
        int which = some(0, 3);
        switch (drawn) {
            case 23, 24, 25 -> note();
            case 26 -> {
                if (random.nextInt(4) == 0) {
                    Check.same(run + "clear()", lamp.clear(), model.clear());
                }
            }
            case 27 -> Check.same(run + "fits()", lamp.fits(), model.fits());
            case 28 -> {
                int i = random.nextBoolean() ? some(0, 3) : some(0, 63);
                Check.same(run + "fit(" + i + ")", lamp.fit(i), model.fit(i));
            }
            case 29, 30 -> lots();
            case 31 -> Check.same(run + "mark(" + which + ", false)", lamp.mark(which, false),
                model.mark(which, false));
            case 32 -> Check.same(run + "mark(" + which + ", true)", lamp.mark(which, true), model.mark(which, true));
            default -> {
                if (random.nextInt(6) == 0) {
                    feed(new long[] {random.nextLong(), random.nextLong(), random.nextLong()});
                }
            }
        }
    }

    /** Half of the notes are true of some set of lost kites, so that sets do fit. */
    private void note() {
        int minute = some(0, 30);
        boolean isTrue = random.nextBoolean() && minute >= 0 && minute <= 30;
        int place = isTrue ? Math.min(999, model.lamp(minute, 0)) : somePlace();
        int high = isTrue ? model.lamp(minute, 1) : some(0, 40);
        Check.same(run + "note(" + minute + ", " + place + ", " + high + ")", lamp.note(minute, place, high),
            model.note(minute, place, high));
    }

    private void lots() {
        int seed = some(0, 9999);
        int nights = random.nextBoolean() ? some(1, 3) : some(1, 20);
        int minutes = random.nextBoolean() ? some(1, 8) : some(1, 60);
        int high = some(0, 40);
        int what = some(0, 1);
        Check.same(run + "lots(" + seed + ", " + nights + ", " + minutes + ", " + high + ", " + what + ")",
            lamp.lots(seed, nights, minutes, high, what), model.lots(seed, nights, minutes, high, what));
    }
}
