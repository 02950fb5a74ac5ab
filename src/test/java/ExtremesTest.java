/**
 * Every call with each of its arguments at and just beyond the ends that the document tells, and at the ends of an int,
 * all of them with all others: beside the Model, so that a call that must be refused changes nothing either.
 */
public final class ExtremesTest {
    private static final int LEAST = Integer.MIN_VALUE;
    private static final int MOST = Integer.MAX_VALUE;
    private static final int[] KITE = {LEAST, -1, 0, 1, 2, 3, 5, 6, 31, 32, 33, MOST};
    private static final int[] HEIGHT = {LEAST, -1, 0, 1, 39, 40, 41, 64, MOST};
    private static final int[] PLACE = {LEAST, -1, 0, 34, 999, 1000, MOST};
    private static final int[] AWAY = {LEAST, -1, 0, 999, 1000, MOST};
    private static final int[] MINUTE = {LEAST, -1, 0, 1, 9999, 10000, MOST};
    private static final int[] WATCH = {LEAST, -1, 0, 1, 240, 241, MOST};
    private static final int[] WHAT = {LEAST, -2, -1, 0, 1, 2, 3, 4, 5, 6, 7, 8, 9, 63, 64, MOST};
    private static final String[] SKIES = {
        "",
        "lamp 0;wind high*3+gust;gusts 50;",
        "lamp 4;" + Told.kite("a", "plain", 10, 5, 10, 12) + Told.kite("b", "deaf", 30, 3, 10, 20)
            + Told.kite("c", "lazy", 50, 9, 30, 8),
        "wind 30+high-gust;rule 2048*1024*1024;haul 5;tired 1;gusts 9;lamp 999;" + Told.kite("a", "box", 0, 1, 0, 0)
            + Told.kite("b", "tail", 99, 20, 99, 40) + Told.kite("c", "heavy", 99, 20, 0, 40)};

    private final KiteLamp lamp = new KiteLamp();
    private final Model model = new Model();
    private final String sky;

    private ExtremesTest(String sky) {
        this.sky = sky;
        for (int from = 0; from < sky.length(); from += 24) {
            long[] three = Told.packed(sky, from);
            lamp.feed(three[0], three[1], three[2]);
            model.feed(three[0], three[1], three[2]);
        }
        same("sky()", lamp.sky(), model.sky());
        same("run(3)", lamp.run(3), model.run(3));
        same("note(3, 34, 20)", lamp.note(3, 34, 20), model.note(3, 34, 20));
    }

    public static void main(String[] args) {
        for (String sky : SKIES) {
            new ExtremesTest(sky).ofNow();
            new ExtremesTest(sky).ofMarksAndSets();
            for (int minute : MINUTE) {
                new ExtremesTest(sky).notes(minute);
            }
            for (int what : WHAT) {
                new ExtremesTest(sky).nearest(what);
                new ExtremesTest(sky).ofAhead(what);
            }
            for (int away : AWAY) {
                new ExtremesTest(sky).fewest(away);
                new ExtremesTest(sky).holds(away);
            }
            for (int what = -1; what <= 2; what++) {
                lots(sky, what);
            }
            for (int kite : KITE) {
                new ExtremesTest(sky).changes(kite);
            }
        }
        Check.finish("ExtremesTest");
    }

    private void same(String call, long got, long due) {
        Check.same(call + " under '" + sky + "'", got, due);
    }

    private static long one(boolean is) {
        return is ? 1 : 0;
    }

    private void ofNow() {
        for (int kite : KITE) {
            for (int what : WHAT) {
                same("kite(" + kite + ", " + what + ")", lamp.kite(kite, what), model.kite(kite, what));
            }
        }
        for (int high : HEIGHT) {
            same("wind(" + high + ")", lamp.wind(high), model.wind(high));
            same("mayGo(" + high + ")", lamp.mayGo(high), model.mayGo(high));
        }
        for (int minute : MINUTE) {
            for (int what : WHAT) {
                same("lamp(" + minute + ", " + what + ")", Told.lamp(lamp, minute, what), model.lamp(minute, what));
            }
        }
    }

    private void ofAhead(int what) {
        same("count(" + what + ")", lamp.count(what), model.count(what));
        for (int high : HEIGHT) {
            same("needed(" + high + ", " + what + ")", lamp.needed(high, what), model.needed(high, what));
        }
        for (int minutes : WATCH) {
            same("mean(" + minutes + ", " + what + ")", lamp.mean(minutes, what), model.mean(minutes, what));
        }
        same("down()", lamp.down(), model.down());
    }

    private void nearest(int what) {
        for (int place : PLACE) {
            for (int high : HEIGHT) {
                same("nearest(" + place + ", " + high + ", " + what + ")", lamp.nearest(place, high, what),
                    model.nearest(place, high, what));
            }
        }
    }

    private void fewest(int away) {
        int[] eaches = {LEAST, 0, 1, 3, 4, MOST};
        for (int place : PLACE) {
            for (int high : HEIGHT) {
                for (int each : eaches) {
                    same("fewest(" + place + ", " + high + ", " + away + ", " + each + ")",
                        lamp.fewest(place, high, away, each), model.fewest(place, high, away, each));
                }
            }
        }
    }

    private void holds(int away) {
        for (int place : PLACE) {
            for (int high : HEIGHT) {
                for (int minutes : WATCH) {
                    same("holds(" + place + ", " + high + ", " + away + ", " + minutes + ")",
                        lamp.holds(place, high, away, minutes), model.holds(place, high, away, minutes));
                }
            }
        }
    }

    private void notes(int minute) {
        for (int place : PLACE) {
            for (int high : HEIGHT) {
                String note = "note(" + minute + ", " + place + ", " + high + ")";
                same(note, lamp.note(minute, place, high), model.note(minute, place, high));
            }
            same("count(7)", lamp.count(7), model.count(7));
            same("fits()", lamp.fits(), model.fits());
            same("clear()", one(lamp.clear()), one(model.clear()));
        }
    }

    private void ofMarksAndSets() {
        for (int what : WHAT) {
            same("fit(" + what + ")", lamp.fit(what), model.fit(what));
        }
        for (int mark : KITE) {
            same("mark(" + mark + ", true)", one(lamp.mark(mark, true)), one(model.mark(mark, true)));
            same("mark(" + mark + ", false)", one(lamp.mark(mark, false)), one(model.mark(mark, false)));
            same("mark(" + mark + ", true)", one(lamp.mark(mark, true)), one(model.mark(mark, true)));
        }
    }

    private static void lots(String sky, int what) {
        int[] seeds = {LEAST, -1, 0, 9999, 10000, MOST};
        int[] nights = {LEAST, 0, 1, 20, 21, MOST};
        int[] minutes = {LEAST, 0, 1, 60, 61, MOST};
        for (int seed : seeds) {
            ExtremesTest test = new ExtremesTest(sky);
            for (int night : nights) {
                for (int minute : minutes) {
                    for (int high : HEIGHT) {
                        test.same("lots(" + seed + ", " + night + ", " + minute + ", " + high + ", " + what + ")",
                            test.lamp.lots(seed, night, minute, high, what),
                            test.model.lots(seed, night, minute, high, what));
                    }
                }
            }
        }
    }

    /** Calls that change what is, right and wrong ones: behind each all kites are as the Model has them. */
    private void changes(int kite) {
        int[] runs = {LEAST, -1, 0, 1, 1000, 1001, MOST};
        for (int length : HEIGHT) {
            String whistle = "whistle(" + kite + ", " + length + ")";
            same(whistle, one(lamp.whistle(kite, length)), one(model.whistle(kite, length)));
            kitesAreSame(whistle);
        }
        for (int minutes : runs) {
            same("run(" + minutes + ")", lamp.run(minutes), model.run(minutes));
            kitesAreSame("run(" + minutes + ")");
        }
        for (int i = 0; i < 4; i++) {
            String lose = "lose(" + kite + ", " + (i > 1) + ")";
            same(lose, one(lamp.lose(kite, i > 1)), one(model.lose(kite, i > 1)));
            kitesAreSame(lose);
        }
    }

    private void kitesAreSame(String behind) {
        for (int k = 0; k < model.count(0); k++) {
            for (int what = 1; what <= 5; what++) {
                same("kite(" + k + ", " + what + ") behind " + behind, lamp.kite(k, what), model.kite(k, what));
            }
        }
        same("count(1) behind " + behind, lamp.count(1), model.count(1));
    }
}
