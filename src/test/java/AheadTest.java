/** Promises 12 (holds), 15 (mean) and 16 (down). */
public final class AheadTest {
    private static final String RISING = "rule 1;lamp 4;kite a plain at 10 lift 5 least 0 long 10;";

    public static void main(String[] args) {
        holds();
        holdsAtTheEnds();
        holdsWithLostOnes();
        wrongHolds();
        means();
        meansInLowestTerms();
        meansAsItIs();
        wrongMeans();
        down();
        downBySix();
        downByTheHaulExactly();
        downByTiredAndLazyBoys();
        allStaysAsItIs();
        Check.finish("AheadTest");
    }

    private static void holds(KiteLamp lamp, int place, int high, int away, int minutes, int due) {
        Check.same("holds(" + place + ", " + high + ", " + away + ", " + minutes + ")",
            lamp.holds(place, high, away, minutes), due);
    }

    private static void holds() {
        // It rises by one a minute, and rests in minute 5: 10 11 12 13 14 15 15 16.
        KiteLamp lamp = Told.under(RISING);
        holds(lamp, 14, 10, 0, 1, -1);
        holds(lamp, 14, 10, 0, 2, 1);
        holds(lamp, 14, 10, 3, 4, -1);
        holds(lamp, 14, 10, 3, 5, 4);
        holds(lamp, 14, 10, 5, 7, -1);
        holds(lamp, 14, 10, 5, 240, 7);
        holds(lamp, 15, 10, 0, 240, 0);
        holds(lamp, 14, 9, 1, 240, 1);
        holds(lamp, 14, 10, 999, 240, -1);
        lamp.run(3);
        holds(lamp, 14, 13, 0, 240, 1);
        holds(lamp, 14, 13, 2, 240, 4);
        // A whistle is hauled for as the minutes go by.
        lamp = Told.under("lamp 4;kite a plain at 10 lift 5 least 0 long 10;");
        holds(lamp, 14, 10, 0, 240, -1);
        lamp.whistle(0, 4);
        holds(lamp, 14, 10, 3, 240, 2);
        holds(lamp, 14, 10, 6, 240, -1);
        // The wind of each minute: PLACE goes by one in five of them.
        lamp = Told.under("wind minute;lamp 0;");
        holds(lamp, 0, 40, 0, 240, 5);
        holds(lamp, 0, 40, 18, 240, 95);
        holds(lamp, 0, 40, 19, 240, -1);
    }

    private static void holdsAtTheEnds() {
        // The rule never moves it: HIGH 10 and PLACE 14 for ever.
        KiteLamp lamp = Told.under("lamp 4;kite a plain at 10 lift 5 least 0 long 10;");
        holds(lamp, 0, 0, 24, 240, -1);
        holds(lamp, 0, 0, 23, 240, 0);
        holds(lamp, 0, 40, 44, 1, -1);
        holds(lamp, 0, 40, 43, 1, 0);
        holds(lamp, 999, 10, 985, 240, -1);
        holds(lamp, 999, 10, 984, 240, 0);
        holds(lamp, 999, 40, 999, 1, 0);
        holds(lamp, 14, 10, 0, 240, -1);
        // In the last of 240 minutes, and one too late.
        lamp = Told.under("wind 20+99*(minute=239);lamp 0;");
        holds(lamp, 4, 40, 0, 240, 239);
        holds(lamp, 4, 40, 0, 239, -1);
        lamp = Told.under("wind 20+99*(minute=240);lamp 0;");
        holds(lamp, 4, 40, 0, 240, -1);
        lamp.run(1);
        holds(lamp, 4, 40, 0, 240, 239);
    }

    private static void holdsWithLostOnes() {
        KiteLamp lamp = Told.under(RISING + "kite b plain at 90 lift 9 least 0 long 30;");
        lamp.lose(1, false);
        holds(lamp, 14, 10, 1, 240, 2);
        means(lamp, 9, 14, 1, 14, 14);
        lamp.lose(0, false);
        holds(lamp, 4, 0, 0, 240, -1);
        means(lamp, 240, 4, 1, 4, 4);
    }

    private static void meansInLowestTerms() {
        means(Told.under("wind 0;"), 240, 0, 1, 0, 0);
        means(Told.under("wind 0;"), 7, 0, 1, 0, 0);
        // 1 in the last of so many minutes, else 0.
        means(Told.under("wind 5*(minute=239);"), 240, 1, 240, 0, 1);
        means(Told.under("wind 5*(minute=239);"), 239, 0, 1, 0, 0);
        means(Told.under("wind 20*(minute=5);"), 6, 2, 3, 0, 4);
        means(Told.under("wind 30*(minute=3);"), 4, 3, 2, 0, 6);
        // The greatest PLACE that can be: 99 and 99 by 5.
        means(Told.under("wind 99;lamp 1;kite a plain at 99 lift 5 least 0 long 10;"), 240, 118, 1, 118, 118);
    }

    private static void meansAsItIs() {
        // WIND is 5 times the height and the winch at 0: PLACE is as much as HIGH.
        String sky = "wind high*5;lamp 1;rule 1;tired 2;kite a plain at 0 lift 1 least 0 long 10;";
        KiteLamp lamp = Told.under(sky);
        means(lamp, 4, 10 + 11 + 12 + 12, 4, 10, 12);
        lamp.run(2);
        // Tired at once: 12 12 13.
        means(lamp, 3, 37, 3, 12, 13);
        holds(lamp, 12, 12, 0, 3, 2);
        lamp = Told.under(sky.replace("plain", "lazy"));
        lamp.run(1);
        // A lazy boy rests in minute 1: 11 11 12.
        means(lamp, 3, 34, 3, 11, 12);
        holds(lamp, 11, 11, 0, 3, 2);
    }

    private static void wrongHolds() {
        KiteLamp lamp = Told.under(RISING);
        int[][] wrong = {{-1, 10, 0, 1}, {1000, 10, 0, 1}, {14, -1, 0, 1}, {14, 41, 0, 1}, {14, 10, -1, 1},
            {14, 10, 1000, 1}, {14, 10, 0, 0}, {14, 10, 0, 241}, {14, 10, 0, Integer.MIN_VALUE},
            {14, 10, 0, Integer.MAX_VALUE}};
        for (int[] call : wrong) {
            holds(lamp, call[0], call[1], call[2], call[3], -2);
        }
    }

    private static void means(KiteLamp lamp, int minutes, long... due) {
        for (int what = 0; what < due.length; what++) {
            Check.same("mean(" + minutes + ", " + what + ")", lamp.mean(minutes, what), due[what]);
        }
    }

    private static void means() {
        KiteLamp lamp = Told.under("wind minute*5;");
        means(lamp, 1, 0, 1, 0, 0);
        means(lamp, 4, 3, 2, 0, 3);
        means(lamp, 3, 1, 1, 0, 2);
        means(lamp, 240, 437, 24, 0, 19);
        lamp.run(2);
        means(lamp, 3, 3, 1, 2, 4);
        means(lamp, 2, 5, 2, 2, 3);
        means(Told.under("wind 50-minute*10;"), 7, 30, 7, 0, 10);
        // It hangs by the first kite until the second is above it: 14 14 94 94.
        lamp = Told.under("lamp 4;haul 1;kite a plain at 10 lift 5 least 0 long 10;kite b plain at 90 lift 5 least 0 long 8;");
        lamp.whistle(1, 12);
        // Minute 2 has both at 10: (100 + 900) / 20.
        means(lamp, 2, 14, 1, 14, 14);
        means(lamp, 3, (14 + 14 + 54) / 1, 3, 14, 54);
        means(lamp, 4, (14 + 14 + 54 + 94) / 4, 1, 14, 94);
    }

    private static void wrongMeans() {
        KiteLamp lamp = Told.under(RISING);
        int[][] wrong = {{0, 0}, {-1, 0}, {241, 0}, {1, -1}, {1, 4}, {Integer.MIN_VALUE, 1}, {Integer.MAX_VALUE, 2},
            {1, Integer.MAX_VALUE}};
        for (int[] call : wrong) {
            Check.same("mean(" + call[0] + ", " + call[1] + ")", lamp.mean(call[0], call[1]), -1);
        }
    }

    private static KiteLamp one(String lines, String kind, int length) {
        return Told.under(lines + "kite a " + kind + " at 1 lift 1 least 0 long " + length + ";");
    }

    private static void down() {
        Check.same("down() without kites", new KiteLamp().down(), 0);
        Check.same("down() of length 0", one("", "plain", 0).down(), 0);
        Check.same("down() of length 1", one("", "plain", 1).down(), 1);
        Check.same("down() of length 15", one("", "plain", 15).down(), 9);
        Check.same("down() of length 15 by 5", one("haul 5;", "plain", 15).down(), 3);
        Check.same("down() of length 16 by 5", one("haul 5;", "plain", 16).down(), 4);
        Check.same("down() of a deaf one", one("", "deaf", 15).down(), 9);
        Check.same("down() against a rule", one("rule 5;", "plain", 15).down(), 9);
        KiteLamp lamp = one("", "plain", 15);
        lamp.whistle(0, 40);
        Check.same("down() against a whistle", lamp.down(), 9);
        lamp = Told.under("kite a plain at 1 lift 1 least 0 long 4;kite b plain at 1 lift 1 least 0 long 10;");
        Check.same("down() of two", lamp.down(), 5);
        lamp.lose(1, false);
        Check.same("down() with one LOST", lamp.down(), 2);
        lamp.lose(0, false);
        Check.same("down() with both LOST", lamp.down(), 0);
    }

    private static void downBySix() {
        StringBuilder six = new StringBuilder("haul 2;tired 20;");
        String[] kinds = {"plain", "box", "tail", "heavy", "deaf", "lazy"};
        for (int k = 0; k < 6; k++) {
            six.append(Told.kite("k" + (char) ('a' + k), kinds[k], 1, 1, 99, k == 5 ? 6 : 10 + 2 * k));
        }
        KiteLamp lamp = Told.under(six.toString());
        // 18 by 2 of the deaf one; the lazy one hauls in minutes 0, 2 and 4.
        Check.same("down() of six", lamp.down(), 9);
        lamp.lose(4, false);
        Check.same("down() of five", lamp.down(), 8);
        lamp.lose(3, false);
        lamp.lose(2, false);
        lamp.lose(1, false);
        lamp.lose(0, false);
        Check.same("down() of the lazy one", lamp.down(), 5);
        lamp.lose(4, true);
        Check.same("down() with one FOUND at 0", lamp.down(), 5);
        lamp.lose(5, false);
        Check.same("down() of the one at 0", lamp.down(), 0);
        Check.same("LOST ones stay", lamp.count(6), 5);
    }

    private static void downByTheHaulExactly() {
        Check.same("down() of 5 by 5", one("haul 5;", "plain", 5).down(), 1);
        Check.same("down() of 6 by 5", one("haul 5;", "plain", 6).down(), 2);
        Check.same("down() of 1 by 5", one("haul 5;", "plain", 1).down(), 1);
        Check.same("down() of 40 by 5", one("haul 5;tired 20;", "plain", 40).down(), 8);
        Check.same("down() of 40 by 2, tired 20", one("tired 20;", "plain", 40).down(), 20);
        Check.same("down() of 40 by 1, tired 20", one("haul 1;tired 20;", "plain", 40).down(), 41);
        Check.same("down() of 20 by 1, tired 20", one("haul 1;tired 20;", "plain", 20).down(), 20);
        Check.same("down() of 21 by 1, tired 20", one("haul 1;tired 20;", "plain", 21).down(), 22);
    }

    private static void downByTiredAndLazyBoys() {
        Check.same("down() of 40 by 1, tired 1", one("haul 1;tired 1;", "plain", 40).down(), 79);
        Check.same("down() of 40 by 1, lazy", one("haul 1;", "lazy", 40).down(), 79);
        KiteLamp lamp = one("haul 2;", "lazy", 4);
        Check.same("down() by a lazy one from 0 on", lamp.down(), 3);
        lamp.run(1);
        Check.same("down() by a lazy one from 1 on", lamp.down(), 4);
        lamp = one("rule 1;tired 2;", "plain", 10);
        lamp.run(2);
        // Rests at once, and behind each two hauls: r h h r h h r h h.
        Check.same("down() by a tired one", lamp.down(), 9);
        lamp.run(2);
        // 13, hauled once: h r h h r h h r h h.
        Check.same("down() by one who hauled once", lamp.down(), 10);
        lamp = one("haul 1;tired 1;", "lazy", 40);
        Check.same("down() of 40 by 1, lazy and tired 1", lamp.down(), 79);
        lamp.run(1);
        Check.same("down() of 40 by 1, lazy and tired 1, from 1 on", lamp.down(), 80);
        // At length 0 a tired boy has nothing to rest from.
        lamp = one("rule 0-1;haul 1;tired 2;", "plain", 2);
        lamp.run(2);
        Check.same("tired at 0", lamp.kite(0, 5), 2);
        Check.same("down() of a tired one at 0", lamp.down(), 0);
    }

    private static void allStaysAsItIs() {
        KiteLamp lamp = Told.under(RISING);
        lamp.run(2);
        lamp.whistle(0, 30);
        lamp.holds(14, 10, 999, 240);
        lamp.mean(240, 0);
        lamp.down();
        Check.same("minute", lamp.count(1), 2);
        Check.same("length", lamp.kite(0, 1), 12);
        Check.same("whistle", lamp.kite(0, 4), 30);
        Check.same("hauled", lamp.kite(0, 5), 2);
    }
}
