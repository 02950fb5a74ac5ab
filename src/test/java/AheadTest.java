/** Promises 12 (holds), 15 (mean) and 16 (down). */
public final class AheadTest {
    private static final String RISING = "rule 1;lamp 4;kite a plain at 10 lift 5 least 0 long 10;";

    public static void main(String[] args) {
        holds();
        wrongHolds();
        means();
        wrongMeans();
        down();
        downByTiredAndLazyBoys();
        allStaysAsItIs();
        Check.finish("AheadTest");
    }

    private static void holds(KiteLamp lamp, int place, int high, int away, int minutes, int due) {
        Check.same("holds(" + place + ", " + high + ", " + away + ", " + minutes + ")",
            lamp.holds(place, high, away, minutes), due);
    }

    private static void holds() {
        // It rises by one a minute, and rests in minute 5: 10 11 12 13 14 15 15 16.
        KiteLamp lamp = Told.under(RISING);
        holds(lamp, 14, 10, 0, 1, -1);
        holds(lamp, 14, 10, 0, 2, 1);
        holds(lamp, 14, 10, 3, 4, -1);
        holds(lamp, 14, 10, 3, 5, 4);
        holds(lamp, 14, 10, 5, 7, -1);
        holds(lamp, 14, 10, 5, 240, 7);
        holds(lamp, 15, 10, 0, 240, 0);
        holds(lamp, 14, 9, 1, 240, 1);
        holds(lamp, 14, 10, 999, 240, -1);
        lamp.run(3);
        holds(lamp, 14, 13, 0, 240, 1);
        holds(lamp, 14, 13, 2, 240, 4);
        // A whistle is hauled for as the minutes go by.
        lamp = Told.under("lamp 4;kite a plain at 10 lift 5 least 0 long 10;");
        holds(lamp, 14, 10, 0, 240, -1);
        lamp.whistle(0, 4);
        holds(lamp, 14, 10, 3, 240, 2);
        holds(lamp, 14, 10, 6, 240, -1);
        // The wind of each minute: PLACE goes by one in five of them.
        lamp = Told.under("wind minute;lamp 0;");
        holds(lamp, 0, 40, 0, 240, 5);
        holds(lamp, 0, 40, 18, 240, 95);
        holds(lamp, 0, 40, 19, 240, -1);
    }

    private static void wrongHolds() {
        KiteLamp lamp = Told.under(RISING);
        int[][] wrong = {{-1, 10, 0, 1}, {1000, 10, 0, 1}, {14, -1, 0, 1}, {14, 41, 0, 1}, {14, 10, -1, 1},
            {14, 10, 1000, 1}, {14, 10, 0, 0}, {14, 10, 0, 241}, {14, 10, 0, Integer.MIN_VALUE},
            {14, 10, 0, Integer.MAX_VALUE}};
        for (int[] call : wrong) {
            holds(lamp, call[0], call[1], call[2], call[3], -2);
        }
    }

    private static void means(KiteLamp lamp, int minutes, long... due) {
        for (int what = 0; what < due.length; what++) {
            Check.same("mean(" + minutes + ", " + what + ")", lamp.mean(minutes, what), due[what]);
        }
    }

    private static void means() {
        KiteLamp lamp = Told.under("wind minute*5;");
        means(lamp, 1, 0, 1, 0, 0);
        means(lamp, 4, 3, 2, 0, 3);
        means(lamp, 3, 1, 1, 0, 2);
        means(lamp, 240, 437, 24, 0, 19);
        lamp.run(2);
        means(lamp, 3, 3, 1, 2, 4);
        means(lamp, 2, 5, 2, 2, 3);
        means(Told.under("wind 50-minute*10;"), 7, 30, 7, 0, 10);
        // It hangs by the first kite until the second is above it: 14 14 94 94.
        lamp = Told.under("lamp 4;haul 1;kite a plain at 10 lift 5 least 0 long 10;kite b plain at 90 lift 5 least 0 long 8;");
        lamp.whistle(1, 12);
        // Minute 2 has both at 10: (100 + 900) / 20.
        means(lamp, 2, 14, 1, 14, 14);
        means(lamp, 3, (14 + 14 + 54) / 1, 3, 14, 54);
        means(lamp, 4, (14 + 14 + 54 + 94) / 4, 1, 14, 94);
    }

    private static void wrongMeans() {
        KiteLamp lamp = Told.under(RISING);
        int[][] wrong = {{0, 0}, {-1, 0}, {241, 0}, {1, -1}, {1, 4}, {Integer.MIN_VALUE, 1}, {Integer.MAX_VALUE, 2},
            {1, Integer.MAX_VALUE}};
        for (int[] call : wrong) {
            Check.same("mean(" + call[0] + ", " + call[1] + ")", lamp.mean(call[0], call[1]), -1);
        }
    }

    private static KiteLamp one(String lines, String kind, int length) {
        return Told.under(lines + "kite a " + kind + " at 1 lift 1 least 0 long " + length + ";");
    }

    private static void down() {
        Check.same("down() without kites", new KiteLamp().down(), 0);
        Check.same("down() of length 0", one("", "plain", 0).down(), 0);
        Check.same("down() of length 1", one("", "plain", 1).down(), 1);
        Check.same("down() of length 15", one("", "plain", 15).down(), 9);
        Check.same("down() of length 15 by 5", one("haul 5;", "plain", 15).down(), 3);
        Check.same("down() of length 16 by 5", one("haul 5;", "plain", 16).down(), 4);
        Check.same("down() of a deaf one", one("", "deaf", 15).down(), 9);
        Check.same("down() against a rule", one("rule 5;", "plain", 15).down(), 9);
        KiteLamp lamp = one("", "plain", 15);
        lamp.whistle(0, 40);
        Check.same("down() against a whistle", lamp.down(), 9);
        lamp = Told.under("kite a plain at 1 lift 1 least 0 long 4;kite b plain at 1 lift 1 least 0 long 10;");
        Check.same("down() of two", lamp.down(), 5);
        lamp.lose(1, false);
        Check.same("down() with one LOST", lamp.down(), 2);
        lamp.lose(0, false);
        Check.same("down() with both LOST", lamp.down(), 0);
    }

    private static void downByTiredAndLazyBoys() {
        Check.same("down() of 40 by 1, tired 1", one("haul 1;tired 1;", "plain", 40).down(), 79);
        Check.same("down() of 40 by 1, lazy", one("haul 1;", "lazy", 40).down(), 79);
        KiteLamp lamp = one("haul 2;", "lazy", 4);
        Check.same("down() by a lazy one from 0 on", lamp.down(), 3);
        lamp.run(1);
        Check.same("down() by a lazy one from 1 on", lamp.down(), 4);
        lamp = one("rule 1;tired 2;", "plain", 10);
        lamp.run(2);
        // Rests at once, and behind each two hauls: r h h r h h r h h.
        Check.same("down() by a tired one", lamp.down(), 9);
        lamp.run(2);
        // 13, hauled once: h r h h r h h r h h.
        Check.same("down() by one who hauled once", lamp.down(), 10);
    }

    private static void allStaysAsItIs() {
        KiteLamp lamp = Told.under(RISING);
        lamp.run(2);
        lamp.whistle(0, 30);
        lamp.holds(14, 10, 999, 240);
        lamp.mean(240, 0);
        lamp.down();
        Check.same("minute", lamp.count(1), 2);
        Check.same("length", lamp.kite(0, 1), 12);
        Check.same("whistle", lamp.kite(0, 4), 30);
        Check.same("hauled", lamp.kite(0, 5), 2);
    }
}
