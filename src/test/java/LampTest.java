/** Promises 4 (kite), 5 (wind) and 6 (lamp). */
public final class LampTest {
    public static void main(String[] args) {
        kinds();
        whatFliesAndPulls();
        wrongKites();
        winds();
        whereTheLampHangs();
        slackKitesDropIt();
        aLampWithoutWeight();
        wrongMinutes();
        Check.finish("LampTest");
    }

    private static void kinds() {
        KiteLamp lamp = Told.under(Told.kite("a", "lazy", 1, 1, 0, 1) + Told.kite("b", "deaf", 1, 1, 0, 2)
            + Told.kite("c", "heavy", 1, 1, 0, 3) + Told.kite("d", "tail", 1, 1, 0, 4) + Told.kite("e", "box", 1, 1, 0, 5)
            + Told.kite("f", "plain", 1, 1, 0, 6));
        for (int k = 0; k < 6; k++) {
            Check.same("kite(" + k + ", 0)", lamp.kite(k, 0), 5 - k);
            Check.same("kite(" + k + ", 1)", lamp.kite(k, 1), k + 1);
            Check.same("kite(" + k + ", 4)", lamp.kite(k, 4), -1);
            Check.same("kite(" + k + ", 5)", lamp.kite(k, 5), 0);
        }
    }

    private static void pulls(String wind, String kind, int lift, int least, int length, int pull, int state) {
        KiteLamp lamp = Told.under("wind " + wind + ";" + Told.kite("a", kind, 1, lift, least, length));
        String about = kind + " of lift " + lift + ", least " + least + ", long " + length + " in wind " + wind;
        Check.same("PULL of " + about, lamp.kite(0, 2), pull);
        Check.same("state of " + about, lamp.kite(0, 3), state);
    }

    private static void whatFliesAndPulls() {
        pulls("high", "plain", 10, 20, 20, 20, 0);
        pulls("high", "plain", 10, 21, 20, 0, 1);
        pulls("19", "plain", 7, 0, 1, 13, 0);
        pulls("20", "plain", 7, 0, 0, 0, 1);
        pulls("0", "plain", 7, 0, 1, 0, 0);
        pulls("99", "plain", 20, 99, 40, 198, 0);
        pulls("98", "plain", 20, 99, 40, 0, 1);
        pulls("39", "box", 3, 0, 5, 11, 0);
        pulls("40", "box", 3, 0, 5, 24, 0);
        pulls("43", "box", 3, 0, 5, 24, 0);
        pulls("40", "plain", 3, 0, 5, 12, 0);
        pulls("20", "tail", 5, 41, 5, 10, 0);
        pulls("20", "tail", 5, 42, 5, 0, 1);
        pulls("19", "tail", 5, 40, 5, 0, 1);
        pulls("20", "heavy", 10, 20, 5, 17, 0);
        pulls("20", "heavy", 1, 0, 5, 0, 0);
        pulls("20", "heavy", 2, 0, 5, 1, 0);
        pulls("50", "deaf", 2, 0, 5, 10, 0);
        pulls("50", "lazy", 2, 51, 5, 0, 1);
        KiteLamp lamp = Told.under("wind 30;" + Told.kite("a", "plain", 1, 5, 0, 9));
        lamp.lose(0, false);
        Check.same("PULL of a LOST one", lamp.kite(0, 2), 0);
        Check.same("state of a LOST one", lamp.kite(0, 3), 2);
        Check.same("length of a LOST one", lamp.kite(0, 1), 9);
        Check.same("kind of a LOST one", lamp.kite(0, 0), 0);
        lamp = Told.under("wind minute*10;" + Told.kite("a", "plain", 1, 10, 20, 9));
        Check.same("SLACK in minute 0", lamp.kite(0, 3), 1);
        lamp.run(2);
        Check.same("FLIES in minute 2", lamp.kite(0, 3), 0);
        Check.same("PULL in minute 2", lamp.kite(0, 2), 20);
    }

    private static void wrongKites() {
        KiteLamp lamp = Told.under(Told.kite("a", "plain", 1, 1, 0, 1) + Told.kite("b", "box", 1, 1, 0, 1));
        int[] wrong = {-1, 2, 6, Integer.MIN_VALUE, Integer.MAX_VALUE};
        for (int kite : wrong) {
            Check.same("kite(" + kite + ", 0)", lamp.kite(kite, 0), -1);
        }
        int[] whats = {-1, 6, Integer.MIN_VALUE, Integer.MAX_VALUE};
        for (int what : whats) {
            Check.same("kite(0, " + what + ")", lamp.kite(0, what), -1);
        }
    }

    private static void winds() {
        KiteLamp lamp = Told.under("wind high*3-minute*10;gusts 50;");
        Check.same("wind(0)", lamp.wind(0), 0);
        Check.same("wind(33)", lamp.wind(33), 99);
        Check.same("wind(34)", lamp.wind(34), 99);
        Check.same("wind(40)", lamp.wind(40), 99);
        Check.same("wind(41)", lamp.wind(41), -1);
        Check.same("wind(-1)", lamp.wind(-1), -1);
        Check.same("wind(greatest int)", lamp.wind(Integer.MAX_VALUE), -1);
        lamp.run(2);
        Check.same("wind(10) in minute 2", lamp.wind(10), 10);
        Check.same("wind(5) in minute 2", lamp.wind(5), 0);
    }

    private static void hangs(KiteLamp lamp, int minute, int place, int high, int raw) {
        Check.same("PLACE in minute " + minute, Told.lamp(lamp, minute, 0), place);
        Check.same("HIGH in minute " + minute, Told.lamp(lamp, minute, 1), high);
        Check.same("raw height in minute " + minute, Told.lamp(lamp, minute, 2), raw);
    }

    private static void whereTheLampHangs() {
        // Pulls 10, 6 and 4 in a wind of 20: 4 from 30 down, 10 from 20 down, 20 from 10 down.
        String three = Told.kite("a", "plain", 10, 5, 0, 10) + Told.kite("b", "plain", 31, 3, 0, 20) + Told.kite("c", "plain", 50, 2, 0, 30);
        hangs(Told.under("lamp 4;" + three), 0, 50 + 4, 30, 30);
        hangs(Told.under("lamp 5;" + three), 0, (6 * 31 + 4 * 50) / 10 + 4, 20, 20);
        hangs(Told.under("lamp 10;" + three), 0, 38 + 4, 20, 20);
        hangs(Told.under("lamp 11;" + three), 0, (100 + 186 + 200) / 20 + 4, 10, 10);
        hangs(Told.under("lamp 20;" + three), 0, 24 + 4, 10, 10);
        hangs(Told.under("wind 10;lamp 1;" + Told.kite("a", "plain", 30, 1, 0, 9)), 0, 30 + 2, 9, 9);
        // None is so: the raw height is 0, and all of them lean there.
        hangs(Told.under("lamp 21;" + three), 0, 24 + 4, 0, 0);
        // The wind at HIGH, each part cut by itself: 7 * 3 / 4 and 24 / 5.
        hangs(Told.under("wind 14+high;lamp 4;" + Told.kite("a", "plain", 7, 2, 0, 10)), 0, 7 + 4, 10, 10);
        KiteLamp lamp = Told.under("wind 20+minute;lamp 11;" + Told.kite("a", "plain", 7, 5, 0, 12));
        hangs(lamp, 0, 7 + 4, 0, 0);
        hangs(lamp, 1, 7 + 4, 0, 0);
        hangs(lamp, 2, 7 + 4, 12, 12);
        hangs(lamp, 5, 7 + 5, 12, 12);
        hangs(lamp, 9999, 7 + 19, 12, 12);
        lamp.lose(0, false);
        hangs(lamp, 5, 5, 0, 0);
        Check.same("no minute goes by", lamp.count(1), 0);
    }

    private static void slackKitesDropIt() {
        String slack = Told.kite("x", "plain", 90, 20, 99, 40) + Told.kite("y", "plain", 90, 20, 0, 0);
        KiteLamp lamp = Told.under("wind 10+high;lamp 4;" + Told.kite("a", "plain", 10, 2, 0, 16) + slack);
        hangs(lamp, 0, 10 + 24 / 5, 14, 16);
        lamp.lose(1, false);
        hangs(lamp, 0, 10 + 25 / 5, 15, 16);
        lamp.lose(2, false);
        hangs(lamp, 0, 10 + 26 / 5, 16, 16);
        lamp.lose(1, true);
        hangs(lamp, 0, 15, 15, 16);
        hangs(Told.under("lamp 2;" + Told.kite("a", "plain", 10, 1, 0, 1) + slack), 0, 14, 0, 1);
    }

    private static void aLampWithoutWeight() {
        hangs(Told.under("lamp 0;"), 0, 4, 40, 40);
        hangs(Told.under("lamp 0;wind high;" + Told.kite("a", "plain", 10, 1, 0, 39)), 0, 8, 40, 40);
        hangs(Told.under("lamp 0;wind high;" + Told.kite("a", "plain", 10, 1, 0, 40)), 0, 18, 40, 40);
        hangs(Told.under("lamp 0;wind high;" + Told.kite("a", "plain", 10, 1, 41, 40)), 0, 7, 39, 40);
    }

    private static void wrongMinutes() {
        KiteLamp lamp = Told.under(Told.kite("a", "plain", 1, 1, 0, 1));
        int[][] wrong = {{-1, 0}, {10000, 0}, {0, -1}, {0, 3}, {Integer.MIN_VALUE, 0}, {Integer.MAX_VALUE, 1},
            {0, Integer.MAX_VALUE}, {9999, Integer.MIN_VALUE}};
        for (int[] call : wrong) {
            Check.same("lamp(" + call[0] + ", " + call[1] + ")", Told.lamp(lamp, call[0], call[1]), Told.THROWS);
        }
        Check.same("lamp(9999, 2)", Told.lamp(lamp, 9999, 2), 0);
    }
}
