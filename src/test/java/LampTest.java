/** Promises 4 (kite), 5 (wind) and 6 (lamp). */
public final class LampTest {
    public static void main(String[] args) {
        kinds();
        whatFliesAndPulls();
        eachOfSixByItself();
        wrongKites();
        winds();
        whereTheLampHangs();
        leansByTheRawHeight();
        eachPartIsCutByItself();
        slackKitesDropIt();
        aLampWithoutWeight();
        theHeaviestLamp();
        minutesThatAreNotNow();
        wrongMinutes();
        beyondTheLastMinute();
        Check.finish("LampTest");
    }

    private static void kinds() {
        KiteLamp lamp = Told.under(Told.kite("a", "lazy", 1, 1, 0, 1) + Told.kite("b", "deaf", 1, 1, 0, 2)
            + Told.kite("c", "heavy", 1, 1, 0, 3) + Told.kite("d", "tail", 1, 1, 0, 4) + Told.kite("e", "box", 1, 1, 0, 5)
            + Told.kite("f", "plain", 1, 1, 0, 6));
        for (int k = 0; k < 6; k++) {
            Check.same("kite(" + k + ", 0)", lamp.kite(k, 0), 5 - k);
            Check.same("kite(" + k + ", 1)", lamp.kite(k, 1), k + 1);
            Check.same("kite(" + k + ", 4)", lamp.kite(k, 4), -1);
            Check.same("kite(" + k + ", 5)", lamp.kite(k, 5), 0);
        }
    }

    private static void pulls(String wind, String kind, int lift, int least, int length, int pull, int state) {
        KiteLamp lamp = Told.under("wind " + wind + ";" + Told.kite("a", kind, 1, lift, least, length));
        String about = kind + " of lift " + lift + ", least " + least + ", long " + length + " in wind " + wind;
        Check.same("PULL of " + about, lamp.kite(0, 2), pull);
        Check.same("state of " + about, lamp.kite(0, 3), state);
    }

    private static void whatFliesAndPulls() {
        pulls("high", "plain", 10, 20, 20, 20, 0);
        pulls("high", "plain", 10, 21, 20, 0, 1);
        pulls("19", "plain", 7, 0, 1, 13, 0);
        pulls("20", "plain", 7, 0, 0, 0, 1);
        pulls("0", "plain", 7, 0, 1, 0, 0);
        pulls("99", "plain", 20, 99, 40, 198, 0);
        pulls("98", "plain", 20, 99, 40, 0, 1);
        pulls("39", "box", 3, 0, 5, 11, 0);
        pulls("40", "box", 3, 0, 5, 24, 0);
        pulls("43", "box", 3, 0, 5, 24, 0);
        pulls("40", "plain", 3, 0, 5, 12, 0);
        pulls("20", "tail", 5, 41, 5, 10, 0);
        pulls("20", "tail", 5, 42, 5, 0, 1);
        pulls("19", "tail", 5, 40, 5, 0, 1);
        pulls("20", "heavy", 10, 20, 5, 17, 0);
        pulls("20", "heavy", 1, 0, 5, 0, 0);
        pulls("20", "heavy", 2, 0, 5, 1, 0);
        pulls("10", "heavy", 3, 0, 5, 0, 0);
        pulls("10", "heavy", 4, 0, 5, 1, 0);
        pulls("0", "heavy", 20, 0, 5, 0, 0);
        pulls("39", "heavy", 10, 40, 5, 0, 1);
        pulls("99", "box", 20, 99, 40, 396, 0);
        pulls("41", "box", 1, 42, 5, 0, 1);
        pulls("0", "tail", 20, 1, 1, 0, 0);
        pulls("49", "tail", 10, 99, 1, 49, 0);
        pulls("48", "tail", 10, 99, 1, 0, 1);
        pulls("99", "tail", 20, 0, 0, 0, 1);
        pulls("9", "plain", 1, 0, 1, 0, 0);
        pulls("10", "plain", 1, 0, 1, 1, 0);
        pulls("50", "deaf", 2, 0, 5, 10, 0);
        pulls("50", "lazy", 2, 51, 5, 0, 1);
        KiteLamp lamp = Told.under("wind 30;" + Told.kite("a", "plain", 1, 5, 0, 9));
        lamp.lose(0, false);
        Check.same("PULL of a LOST one", lamp.kite(0, 2), 0);
        Check.same("state of a LOST one", lamp.kite(0, 3), 2);
        Check.same("length of a LOST one", lamp.kite(0, 1), 9);
        Check.same("kind of a LOST one", lamp.kite(0, 0), 0);
        lamp = Told.under("wind minute*10;" + Told.kite("a", "plain", 1, 10, 20, 9));
        Check.same("SLACK in minute 0", lamp.kite(0, 3), 1);
        lamp.run(2);
        Check.same("FLIES in minute 2", lamp.kite(0, 3), 0);
        Check.same("PULL in minute 2", lamp.kite(0, 2), 20);
    }

    private static void eachOfSixByItself() {
        // WIND is 10 and the length: b hangs SLACK by its least, d by its length, f is LOST.
        KiteLamp lamp = Told.under("wind 10+high;" + Told.kite("a", "plain", 1, 10, 15, 5)
            + Told.kite("b", "plain", 1, 10, 17, 6) + Told.kite("c", "box", 1, 10, 40, 30)
            + Told.kite("d", "tail", 1, 10, 0, 0) + Told.kite("e", "heavy", 1, 10, 18, 8)
            + Told.kite("f", "lazy", 1, 10, 0, 9));
        lamp.lose(5, false);
        int[] pulls = {15, 0, 80, 0, 15, 0};
        int[] states = {0, 1, 0, 1, 0, 2};
        for (int k = 0; k < 6; k++) {
            Check.same("kite(" + k + ", 2) of six", lamp.kite(k, 2), pulls[k]);
            Check.same("kite(" + k + ", 3) of six", lamp.kite(k, 3), states[k]);
        }
        Check.same("kite(6, 3) of six", lamp.kite(6, 3), -1);
        Check.same("whistle(4, 0)", lamp.whistle(4, 0), true);
        Check.same("a whistle for 0 is one", lamp.kite(4, 4), 0);
        Check.same("the others have none", lamp.kite(3, 4), -1);
    }

    private static void wrongKites() {
        KiteLamp lamp = Told.under(Told.kite("a", "plain", 1, 1, 0, 1) + Told.kite("b", "box", 1, 1, 0, 1));
        int[] wrong = {-1, 2, 6, Integer.MIN_VALUE, Integer.MAX_VALUE};
        for (int kite : wrong) {
            Check.same("kite(" + kite + ", 0)", lamp.kite(kite, 0), -1);
        }
        int[] whats = {-1, 6, Integer.MIN_VALUE, Integer.MAX_VALUE};
        for (int what : whats) {
            Check.same("kite(0, " + what + ")", lamp.kite(0, what), -1);
        }
    }

    private static void winds() {
        KiteLamp lamp = Told.under("wind high*3-minute*10;gusts 50;");
        Check.same("wind(0)", lamp.wind(0), 0);
        Check.same("wind(33)", lamp.wind(33), 99);
        Check.same("wind(34)", lamp.wind(34), 99);
        Check.same("wind(40)", lamp.wind(40), 99);
        Check.same("wind(41)", lamp.wind(41), -1);
        Check.same("wind(-1)", lamp.wind(-1), -1);
        Check.same("wind(greatest int)", lamp.wind(Integer.MAX_VALUE), -1);
        lamp.run(2);
        Check.same("wind(10) in minute 2", lamp.wind(10), 10);
        Check.same("wind(5) in minute 2", lamp.wind(5), 0);
    }

    private static void hangs(KiteLamp lamp, int minute, int place, int high, int raw) {
        Check.same("PLACE in minute " + minute, Told.lamp(lamp, minute, 0), place);
        Check.same("HIGH in minute " + minute, Told.lamp(lamp, minute, 1), high);
        Check.same("raw height in minute " + minute, Told.lamp(lamp, minute, 2), raw);
    }

    private static void whereTheLampHangs() {
        // Pulls 10, 6 and 4 in a wind of 20: 4 from 30 down, 10 from 20 down, 20 from 10 down.
        String three = Told.kite("a", "plain", 10, 5, 0, 10) + Told.kite("b", "plain", 31, 3, 0, 20) + Told.kite("c", "plain", 50, 2, 0, 30);
        hangs(Told.under("lamp 4;" + three), 0, 50 + 4, 30, 30);
        hangs(Told.under("lamp 5;" + three), 0, (6 * 31 + 4 * 50) / 10 + 4, 20, 20);
        hangs(Told.under("lamp 10;" + three), 0, 38 + 4, 20, 20);
        hangs(Told.under("lamp 11;" + three), 0, (100 + 186 + 200) / 20 + 4, 10, 10);
        hangs(Told.under("lamp 20;" + three), 0, 24 + 4, 10, 10);
        hangs(Told.under("wind 10;lamp 1;" + Told.kite("a", "plain", 30, 1, 0, 9)), 0, 30 + 2, 9, 9);
        // None is so: the raw height is 0, and all of them lean there.
        hangs(Told.under("lamp 21;" + three), 0, 24 + 4, 0, 0);
        // The wind at HIGH, each part cut by itself: 7 * 3 / 4 and 24 / 5.
        hangs(Told.under("wind 14+high;lamp 4;" + Told.kite("a", "plain", 7, 2, 0, 10)), 0, 7 + 4, 10, 10);
        KiteLamp lamp = Told.under("wind 20+minute;lamp 11;" + Told.kite("a", "plain", 7, 5, 0, 12));
        hangs(lamp, 0, 7 + 4, 0, 0);
        hangs(lamp, 1, 7 + 4, 0, 0);
        hangs(lamp, 2, 7 + 4, 12, 12);
        hangs(lamp, 5, 7 + 5, 12, 12);
        hangs(lamp, 9999, 7 + 19, 12, 12);
        lamp.lose(0, false);
        hangs(lamp, 5, 5, 0, 0);
        Check.same("no minute goes by", lamp.count(1), 0);
    }

    private static void leansByTheRawHeight() {
        String slack = Told.kite("x", "plain", 0, 20, 99, 40);
        // b's line is as long as HIGH, but shorter than the raw height: it does not count.
        hangs(Told.under("lamp 4;" + Told.kite("a", "plain", 10, 2, 0, 16) + Told.kite("b", "plain", 90, 2, 0, 15) + slack),
            0, 10 + 4, 15, 16);
        hangs(Told.under("lamp 4;" + Told.kite("a", "plain", 10, 2, 0, 16) + Told.kite("b", "plain", 90, 2, 0, 16) + slack),
            0, 50 + 4, 15, 16);
        // At the raw height 0 lines of any length count, also those that pull nothing.
        hangs(Told.under("lamp 5;" + Told.kite("a", "plain", 10, 2, 0, 1) + Told.kite("b", "plain", 90, 2, 0, 0)),
            0, 10 + 4, 0, 0);
    }

    private static void eachPartIsCutByItself() {
        // (4 * 10 + 5 * 11) / 9 is 10 and 5 ninths, 24 / 5 is 4 and 4 fifths: together they would be over 15.
        hangs(Told.under("wind 24;lamp 1;" + Told.kite("a", "plain", 10, 2, 0, 9) + Told.kite("b", "plain", 11, 2, 0, 9)),
            0, 10 + 4, 9, 9);
        hangs(Told.under("wind 4;"), 0, 0, 0, 0);
        hangs(Told.under("wind 5;"), 0, 1, 0, 0);
        hangs(Told.under("wind 999;"), 0, 19, 0, 0);
    }

    private static void theHeaviestLamp() {
        // Six boxes pull 396 each in the strongest wind: three hold 999, two do not.
        String two = Told.kite("a", "box", 99, 20, 99, 40) + Told.kite("b", "box", 99, 20, 99, 40);
        hangs(Told.under("wind 99;lamp 999;" + two), 0, 99 + 19, 0, 0);
        hangs(Told.under("wind 99;lamp 999;" + two + Told.kite("c", "box", 99, 20, 99, 39)), 0, 99 + 19, 39, 39);
        hangs(Told.under("wind 99;lamp 792;" + two), 0, 99 + 19, 40, 40);
        hangs(Told.under("wind 99;lamp 793;" + two), 0, 99 + 19, 0, 0);
        hangs(Told.under("lamp 20;" + Told.kite("a", "plain", 9, 10, 0, 1)), 0, 9 + 4, 1, 1);
        // A weight that is not told is 20.
        hangs(Told.under(Told.kite("a", "plain", 9, 10, 0, 1)), 0, 9 + 4, 1, 1);
        hangs(Told.under("wind 19;" + Told.kite("a", "plain", 9, 10, 0, 1)), 0, 9 + 3, 0, 0);
    }

    private static void minutesThatAreNotNow() {
        KiteLamp lamp = Told.under("wind 20+minute*5;lamp 4;rule 1;" + Told.kite("a", "plain", 7, 5, 0, 12));
        lamp.run(3);
        // Lengths are those of now, in whatever minute.
        hangs(lamp, 0, 7 + 4, 15, 15);
        hangs(lamp, 3, 7 + 7, 15, 15);
        hangs(lamp, 10, 7 + 14, 15, 15);
        Check.same("the minute stays", lamp.count(1), 3);
        Check.same("the length stays", lamp.kite(0, 1), 15);
    }

    private static void beyondTheLastMinute() {
        KiteLamp lamp = Told.under("wind minute-9990;lamp 0;");
        for (int i = 0; i < 10; i++) {
            lamp.run(1000);
        }
        Check.same("count(1)", lamp.count(1), 10000);
        Check.same("wind(0) in minute 10000", lamp.wind(0), 10);
        Check.same("lamp(10000, 0) though it is now", Told.lamp(lamp, 10000, 0), Told.THROWS);
        hangs(lamp, 9999, 1, 40, 40);
        Check.same("note(10000, 2, 40) though it is now", lamp.note(10000, 2, 40), -1);
        Check.same("holds(2, 40, 0, 6)", lamp.holds(2, 40, 0, 6), 5);
        Check.same("mean(10, 0)", lamp.mean(10, 0), 5);
        Check.same("mean(10, 1)", lamp.mean(10, 1), 2);
    }

    private static void slackKitesDropIt() {
        String slack = Told.kite("x", "plain", 90, 20, 99, 40) + Told.kite("y", "plain", 90, 20, 0, 0);
        KiteLamp lamp = Told.under("wind 10+high;lamp 4;" + Told.kite("a", "plain", 10, 2, 0, 16) + slack);
        hangs(lamp, 0, 10 + 24 / 5, 14, 16);
        lamp.lose(1, false);
        hangs(lamp, 0, 10 + 25 / 5, 15, 16);
        lamp.lose(2, false);
        hangs(lamp, 0, 10 + 26 / 5, 16, 16);
        lamp.lose(1, true);
        hangs(lamp, 0, 15, 15, 16);
        hangs(Told.under("lamp 2;" + Told.kite("a", "plain", 10, 1, 0, 1) + slack), 0, 14, 0, 1);
    }

    private static void aLampWithoutWeight() {
        hangs(Told.under("lamp 0;"), 0, 4, 40, 40);
        hangs(Told.under("lamp 0;wind high;" + Told.kite("a", "plain", 10, 1, 0, 39)), 0, 8, 40, 40);
        hangs(Told.under("lamp 0;wind high;" + Told.kite("a", "plain", 10, 1, 0, 40)), 0, 18, 40, 40);
        hangs(Told.under("lamp 0;wind high;" + Told.kite("a", "plain", 10, 1, 41, 40)), 0, 7, 39, 40);
    }

    private static void wrongMinutes() {
        KiteLamp lamp = Told.under(Told.kite("a", "plain", 1, 1, 0, 1));
        int[][] wrong = {{-1, 0}, {10000, 0}, {0, -1}, {0, 3}, {Integer.MIN_VALUE, 0}, {Integer.MAX_VALUE, 1},
            {0, Integer.MAX_VALUE}, {9999, Integer.MIN_VALUE}};
        for (int[] call : wrong) {
            Check.same("lamp(" + call[0] + ", " + call[1] + ")", Told.lamp(lamp, call[0], call[1]), Told.THROWS);
        }
        Check.same("lamp(9999, 2)", Told.lamp(lamp, 9999, 2), 0);
    }
}
