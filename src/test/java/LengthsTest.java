/** Promises 10 (nearest) and 11 (fewest). */
public final class LengthsTest {
    /** In a wind of 20 they pull 10 and 6; alone the second holds the lamp at 20, over 34. */
    private static final String TWO = "lamp 4;" + kite("a", 10, 5, 0, 12) + kite("b", 30, 3, 0, 20);

    public static void main(String[] args) {
        nearestByOne();
        nearestTakesTheFewestThenTheFirst();
        nearestTakesTheShorterOfTwo();
        nearestKeepsToTheLine();
        nearestKnowsSlackKites();
        nearestByTheWeightExactly();
        nearestUnderAnotherSky();
        nearestIsOfNow();
        nearestLeavesLostOnes();
        wrongNearest();
        fewestByOne();
        fewestByMany();
        fewestKnowsSlackKites();
        fewestBehindNearest();
        fewestKeepsToTheLine();
        placesAtTheEnds();
        endsOfWhatMayBeAsked();
        wrongFewest();
        allStaysAsItIs();
        sixKitesAgainstTheModel();
        Check.finish("LengthsTest");
    }

    private static String kite(String name, int at, int lift, int least, int length) {
        return "kite " + name + " plain at " + at + " lift " + lift + " least " + least + " long " + length + ";";
    }

    private static void nearest(KiteLamp lamp, int place, int high, int... due) {
        for (int what = 0; what < due.length; what++) {
            Check.same("nearest(" + place + ", " + high + ", " + what + ")", lamp.nearest(place, high, what), due[what]);
        }
    }

    private static void nearestByOne() {
        KiteLamp lamp = Told.under(TWO);
        nearest(lamp, 34, 20, 0, 0, 12, 20);
        nearest(lamp, 34, 18, 0, 1, 12, 18);
        nearest(lamp, 34, 17, 1, 1, 12, 18);
        nearest(lamp, 34, 23, 1, 1, 12, 22);
        nearest(lamp, 30, 20, 4, 0, 12, 20);
        nearest(lamp, 14, 12, 26, 1, 12, 18);
        nearest(lamp, 999, 40, 965 + 18, 1, 12, 22);
        nearest(Told.under(""), 10, 10, 16, 0);
    }

    private static void nearestTakesTheFewestThenTheFirst() {
        KiteLamp lamp = Told.under("lamp 4;" + kite("a", 10, 5, 0, 10) + kite("b", 10, 5, 0, 10));
        // Either alone would do: kite 0 is the shorter in the first of both.
        nearest(lamp, 14, 12, 0, 1, 10, 12);
        nearest(lamp, 14, 11, 0, 1, 10, 11);
        nearest(lamp, 14, 9, 0, 2, 8, 9);
        nearest(lamp, 14, 10, 0, 0, 10, 10);
    }

    private static void nearestTakesTheShorterOfTwo() {
        // At a length of 10 there is no wind: at 9 and at 11 it is as near, and 9 is the first.
        KiteLamp lamp = Told.under("wind 20*not(high=10);lamp 4;" + kite("a", 10, 5, 1, 10));
        nearest(lamp, 14, 10, 1, 1, 9);
        nearest(lamp, 14, 11, 0, 1, 11);
        // Kite 0 least first, then kite 1: 9 and 11 come before 11 and 9.
        lamp = Told.under("wind 20*not(high=10);lamp 15;" + kite("a", 10, 5, 1, 10) + kite("b", 10, 5, 1, 10));
        nearest(lamp, 14, 9, 0, 2, 9, 9);
        nearest(lamp, 14, 11, 0, 2, 11, 11);
        nearest(lamp, 14, 10, 1, 2, 9, 9);
        // The fewest changed go before the first: kite 1 alone, though kite 0 could be shorter, too.
        lamp = Told.under("lamp 4;" + kite("a", 10, 5, 0, 10) + kite("b", 10, 5, 0, 12));
        nearest(lamp, 14, 13, 0, 1, 10, 13);
        nearest(lamp, 14, 11, 0, 1, 10, 11);
        nearest(lamp, 14, 10, 0, 1, 10, 10);
        nearest(lamp, 14, 9, 1, 1, 10, 10);
    }

    private static void nearestKnowsSlackKites() {
        // The second hangs SLACK whatever its length, and drops the lamp by one.
        KiteLamp lamp = Told.under("lamp 4;" + kite("a", 10, 5, 0, 12) + kite("b", 30, 5, 99, 20));
        nearest(lamp, 14, 11, 0, 0, 12, 20);
        nearest(lamp, 14, 12, 0, 1, 13, 20);
        nearest(lamp, 14, 13, 0, 1, 14, 20);
        nearest(lamp, 14, 14, 1, 1, 14, 20);
        nearest(lamp, 14, 9, 0, 1, 10, 20);
        nearest(lamp, 14, 8, 1, 1, 10, 20);
        // One that is let out flies, too weak to hold the lamp, but HIGH is not dropped any more: 12 and 13 come before
        // 13 and 12, by which it is as near.
        lamp = Told.under("wind 10+high;lamp 4;" + kite("a", 10, 5, 0, 12) + kite("b", 10, 1, 23, 12));
        nearest(lamp, 14, 12, 0, 1, 12, 13);
        nearest(lamp, 14, 13, 0, 1, 14, 12);
        // Two SLACK ones of three, and HIGH is 0 at least.
        lamp = Told.under("lamp 4;" + kite("a", 10, 5, 0, 1) + kite("b", 10, 5, 99, 9) + kite("c", 10, 5, 0, 0));
        nearest(lamp, 14, 0, 0, 0, 1, 9, 0);
        nearest(lamp, 14, 1, 0, 1, 1, 9, 2);
        nearest(lamp, 14, 2, 0, 2, 3, 9, 1);
    }

    private static void nearestByTheWeightExactly() {
        String one = kite("a", 10, 5, 0, 12);
        // A PULL of 10 holds 10, but not 11.
        nearest(Told.under("lamp 10;" + one), 14, 12, 0, 0, 12);
        nearest(Told.under("lamp 11;" + one), 14, 12, 12, 0, 12);
        fewest(Told.under("lamp 10;" + one), 14, 13, 0, 1, 1);
        fewest(Told.under("lamp 11;" + one), 14, 13, 12, 3, -1);
        fewest(Told.under("lamp 11;" + one), 14, 13, 13, 3, 0);
        // One behind it that pulls nothing, or not so high, takes nothing from it.
        nearest(Told.under("lamp 10;" + one + kite("b", 30, 5, 99, 20)), 14, 11, 0, 0, 12, 20);
        nearest(Told.under("lamp 10;" + one + kite("b", 30, 5, 0, 3)), 14, 12, 0, 0, 12, 3);
        nearest(Told.under("lamp 10;" + kite("b", 30, 5, 99, 20) + one), 14, 11, 0, 0, 20, 12);
        fewest(Told.under("lamp 10;" + one + kite("b", 30, 5, 99, 20)), 14, 11, 0, 1, 0);
        // Both together, and one more than both.
        String both = kite("a", 10, 5, 0, 12) + kite("b", 10, 3, 0, 12);
        nearest(Told.under("lamp 16;" + both), 14, 12, 0, 0, 12, 12);
        nearest(Told.under("lamp 17;" + both), 14, 12, 12, 0, 12, 12);
    }

    private static void nearestUnderAnotherSky() {
        StringBuilder six = new StringBuilder("lamp 60;");
        for (int k = 0; k < 6; k++) {
            six.append(kite("k" + (char) ('a' + k), 10, 5, 0, 20));
        }
        KiteLamp lamp = Told.under(six.toString());
        nearest(lamp, 14, 20, 0, 0, 20, 20, 20, 20, 20, 20);
        // Of the six nothing is left under a sky with one.
        Check.same("a sky with one", Told.sky(lamp, "lamp 15;" + kite("a", 10, 5, 0, 20)), 0);
        nearest(lamp, 14, 20, 20, 0, 20, -1);
        fewest(lamp, 14, 20, 19, 3, -1);
        fewest(lamp, 14, 20, 20, 3, 0);
        Check.same("a sky with six", Told.sky(lamp, six.toString()), 0);
        nearest(lamp, 14, 21, 0, 6, 21, 21, 21, 21, 21, 21);
        Check.same("a sky with none", Told.sky(lamp, ""), 0);
        nearest(lamp, 14, 20, 30, 0, -1);
    }

    private static void nearestIsOfNow() {
        KiteLamp lamp = Told.under("wind 20+minute*5;lamp 4;rule minute<2;" + kite("a", 10, 5, 0, 12));
        nearest(lamp, 14, 12, 0, 0, 12);
        fewest(lamp, 14, 13, 0, 1, 1);
        lamp.run(2);
        // Two minutes on the line is 14 long and the wind 30.
        nearest(lamp, 16, 14, 0, 0, 14);
        nearest(lamp, 14, 12, 2, 1, 12);
        nearest(lamp, 16, 17, 1, 1, 16);
        fewest(lamp, 16, 11, 0, 3, 1);
        fewest(lamp, 16, 10, 0, 3, -1);
        lamp.whistle(0, 40);
        // A whistle that is not hauled for yet changes nothing.
        nearest(lamp, 16, 14, 0, 0, 14);
        fewest(lamp, 16, 14, 0, 1, 0);
    }

    private static void nearestKeepsToTheLine() {
        KiteLamp lamp = Told.under("lamp 4;" + kite("a", 10, 5, 0, 1));
        nearest(lamp, 4, 0, 0, 1, 0);
        nearest(lamp, 14, 0, 1, 0, 1);
        nearest(lamp, 14, 5, 2, 1, 3);
        lamp = Told.under("lamp 4;" + kite("a", 10, 5, 0, 39));
        nearest(lamp, 14, 40, 0, 1, 40);
        nearest(lamp, 14, 36, 1, 1, 37);
        lamp = Told.under("lamp 4;" + kite("a", 10, 5, 0, 40));
        nearest(lamp, 14, 40, 0, 0, 40);
        // The wind changes by height: below 12 the kite hangs SLACK.
        lamp = Told.under("wind high;lamp 1;" + kite("a", 10, 5, 12, 12));
        nearest(lamp, 12, 11, 1, 0, 12);
        nearest(lamp, 0, 0, 0, 1, 10);
    }

    private static void nearestLeavesLostOnes() {
        KiteLamp lamp = Told.under(TWO);
        lamp.lose(1, false);
        nearest(lamp, 14, 11, 0, 1, 11, 20);
        nearest(lamp, 34, 20, 26, 1, 14, 20);
        lamp.lose(0, false);
        nearest(lamp, 4, 1, 1, 0, 12, 20);
    }

    private static void wrongNearest() {
        KiteLamp lamp = Told.under(TWO);
        int[][] wrong = {{-1, 0, 0}, {1000, 0, 0}, {0, -1, 0}, {0, 41, 0}, {0, 0, -1}, {0, 0, 4},
            {Integer.MIN_VALUE, 0, 0}, {0, Integer.MAX_VALUE, 0}, {0, 0, Integer.MAX_VALUE}, {0, 0, Integer.MIN_VALUE}};
        for (int[] call : wrong) {
            Check.same("nearest(" + call[0] + ", " + call[1] + ", " + call[2] + ")",
                lamp.nearest(call[0], call[1], call[2]), -1);
        }
    }

    private static void fewest(KiteLamp lamp, int place, int high, int away, int each, int due) {
        Check.same("fewest(" + place + ", " + high + ", " + away + ", " + each + ")",
            lamp.fewest(place, high, away, each), due);
    }

    private static void fewestByOne() {
        KiteLamp lamp = Told.under(TWO);
        fewest(lamp, 34, 20, 0, 1, 0);
        fewest(lamp, 34, 21, 0, 1, 1);
        fewest(lamp, 34, 22, 0, 1, -1);
        fewest(lamp, 34, 22, 1, 1, 1);
        fewest(lamp, 34, 22, 2, 1, 0);
        fewest(lamp, 34, 22, 0, 2, 1);
        fewest(lamp, 34, 17, 0, 2, -1);
        fewest(lamp, 34, 17, 0, 3, 1);
        fewest(lamp, 34, 16, 0, 3, -1);
        fewest(lamp, 999, 40, 999, 1, 0);
        lamp.lose(1, false);
        fewest(lamp, 14, 12, 0, 3, 0);
        fewest(lamp, 14, 9, 0, 3, 1);
        fewest(lamp, 34, 20, 0, 3, -1);
    }

    private static void fewestByMany() {
        StringBuilder six = new StringBuilder("lamp 60;");
        for (int k = 0; k < 6; k++) {
            six.append(kite("k" + (char) ('a' + k), 10, 5, 0, 20));
        }
        KiteLamp lamp = Told.under(six.toString());
        fewest(lamp, 14, 20, 0, 3, 0);
        fewest(lamp, 14, 23, 0, 3, 6);
        fewest(lamp, 14, 23, 0, 2, -1);
        fewest(lamp, 14, 17, 0, 3, 1);
        nearest(lamp, 14, 22, 0, 6, 22, 22, 22, 22, 22, 22);
        nearest(lamp, 14, 18, 0, 1, 18, 20, 20, 20, 20, 20);
        lamp = Told.under(six.toString().replace("long 20", "long 1").replace("lamp 60", "lamp 61"));
        // Nothing pulls only if all lines are in.
        fewest(lamp, 4, 0, 0, 1, 6);
        nearest(lamp, 4, 0, 0, 6, 0, 0, 0, 0, 0, 0);
        lamp = Told.under("lamp 15;" + kite("a", 10, 5, 0, 10) + kite("b", 30, 5, 0, 10));
        fewest(lamp, 24, 12, 0, 2, 2);
        fewest(lamp, 24, 9, 0, 1, 1);
        fewest(lamp, 24, 11, 1, 1, 0);
    }

    private static void fewestKnowsSlackKites() {
        KiteLamp lamp = Told.under("lamp 4;" + kite("a", 10, 5, 0, 12) + kite("b", 30, 5, 99, 20));
        fewest(lamp, 14, 11, 0, 1, 0);
        fewest(lamp, 14, 12, 0, 1, 1);
        fewest(lamp, 14, 13, 0, 1, -1);
        fewest(lamp, 14, 14, 0, 3, 1);
        fewest(lamp, 14, 15, 0, 3, -1);
        lamp.lose(1, false);
        fewest(lamp, 14, 12, 0, 1, 0);
        fewest(lamp, 14, 15, 0, 3, 1);
        // Three lines at 0 hang SLACK; each that is let out holds the lamp and drops it no more.
        lamp = Told.under("lamp 4;" + kite("a", 10, 5, 0, 0) + kite("b", 10, 5, 0, 0) + kite("c", 10, 5, 0, 0));
        fewest(lamp, 14, 1, 0, 3, 1);
        fewest(lamp, 14, 2, 0, 3, 2);
        fewest(lamp, 14, 3, 0, 3, 3);
        fewest(lamp, 14, 3, 0, 2, -1);
        fewest(lamp, 14, 3, 1, 2, 3);
    }

    private static void fewestBehindNearest() {
        // Nearest changes two lines; one change is enough to be as near as is asked for here, none for more.
        KiteLamp lamp = Told.under("lamp 15;" + kite("a", 10, 5, 0, 10) + kite("b", 30, 5, 0, 11));
        nearest(lamp, 24, 13, 1, 2, 12, 12);
        fewest(lamp, 24, 13, 1, 2, 2);
        fewest(lamp, 24, 13, 2, 2, 1);
        fewest(lamp, 24, 13, 3, 2, 0);
        nearest(lamp, 24, 13, 1, 2, 12, 12);
        fewest(lamp, 24, 13, 999, 2, 0);
        nearest(lamp, 24, 13, 1, 2, 12, 12);
    }

    private static void fewestKeepsToTheLine() {
        KiteLamp lamp = Told.under("lamp 4;" + kite("a", 10, 5, 0, 39));
        fewest(lamp, 14, 40, 0, 1, 1);
        fewest(lamp, 14, 36, 0, 3, 1);
        fewest(lamp, 14, 35, 0, 3, -1);
        fewest(lamp, 14, 35, 1, 3, 1);
        lamp = Told.under("lamp 4;" + kite("a", 10, 5, 0, 1));
        fewest(lamp, 4, 0, 0, 1, 1);
        fewest(lamp, 4, 0, 0, 3, 1);
        fewest(lamp, 14, 4, 0, 3, 1);
        fewest(lamp, 14, 5, 0, 3, -1);
    }

    private static void endsOfWhatMayBeAsked() {
        // HIGH 20, PLACE 34, and 20 +- 2 by the second line.
        KiteLamp lamp = Told.under(TWO);
        nearest(lamp, 0, 0, 34 + 18, 1, 12, 18);
        nearest(lamp, 0, 40, 34 + 18, 1, 12, 22);
        nearest(lamp, 999, 0, 965 + 18, 1, 12, 18);
        fewest(lamp, 0, 0, 51, 3, 1);
        fewest(lamp, 0, 0, 50, 3, -1);
        fewest(lamp, 0, 0, 54, 1, 0);
        fewest(lamp, 0, 40, 53, 1, 1);
        fewest(lamp, 999, 0, 999, 1, 0);
        fewest(lamp, 999, 0, 984, 1, 1);
        fewest(lamp, 999, 0, 983, 1, -1);
    }

    private static void placesAtTheEnds() {
        fewest(Told.under("wind 99*(high=40);lamp 0;"), 19, 40, 0, 1, 0);
        fewest(Told.under("wind 99*(high=0);"), 19, 0, 0, 1, 0);
        fewest(Told.under("wind 99;lamp 4;" + kite("a", 99, 5, 0, 40)), 118, 40, 0, 1, 0);
        fewest(Told.under("wind 99;lamp 4;" + kite("a", 99, 5, 0, 40)), 119, 40, 0, 1, -1);
        fewest(Told.under("wind 99;lamp 4;" + kite("a", 99, 5, 0, 40)), 119, 40, 1, 1, 0);
        KiteLamp lamp = Told.under("wind 10;lamp 1;" + kite("a", 30, 1, 0, 9));
        nearest(lamp, 32, 9, 0, 0, 9);
        lamp = Told.under("lamp 0;" + kite("a", 30, 1, 0, 38));
        // From a line of 40 on the kite leans where the lamp without weight hangs.
        nearest(lamp, 34, 40, 0, 1, 40);
        nearest(lamp, 4, 40, 0, 0, 38);
        nearest(Told.under("lamp 4;" + kite("a", 30, 5, 0, 0)), 4, 0, 0, 0, 0);
    }

    private static void wrongFewest() {
        KiteLamp lamp = Told.under(TWO);
        int[][] wrong = {{-1, 20, 999, 1}, {1000, 20, 999, 1}, {34, -1, 999, 1}, {34, 41, 999, 1}, {34, 20, -1, 1},
            {34, 20, 1000, 1}, {34, 20, 999, 0}, {34, 20, 999, 4}, {34, 20, 999, Integer.MIN_VALUE},
            {34, 20, Integer.MAX_VALUE, 1}};
        for (int[] call : wrong) {
            fewest(lamp, call[0], call[1], call[2], call[3], -1);
        }
    }

    private static void allStaysAsItIs() {
        KiteLamp lamp = Told.under(TWO);
        lamp.whistle(0, 30);
        lamp.nearest(14, 5, 0);
        lamp.fewest(14, 5, 0, 3);
        Check.same("lengths stay", lamp.kite(0, 1) * 100 + lamp.kite(1, 1), 1220);
        Check.same("the whistle stays", lamp.kite(0, 4), 30);
        Check.same("no minute goes by", lamp.count(1), 0);
    }

    /** The search leaves out what cannot win; the Model tries every choice. */
    private static void sixKitesAgainstTheModel() {
        String six = "wind 12+high*high-high*20+minute;lamp 45;kite a box at 3 lift 6 least 9 long 18;"
            + "kite b tail at 90 lift 4 least 50 long 20;kite c heavy at 44 lift 9 least 5 long 19;"
            + "kite d lazy at 60 lift 3 least 9 long 17;kite e deaf at 20 lift 5 least 20 long 21;"
            + "kite f plain at 71 lift 2 least 0 long 19;";
        KiteLamp lamp = new KiteLamp();
        Model model = new Model();
        for (int from = 0; from < six.length(); from += 24) {
            long[] three = Told.packed(six, from);
            lamp.feed(three[0], three[1], three[2]);
            model.feed(three[0], three[1], three[2]);
        }
        Check.same("the sky of six", lamp.sky(), model.sky());
        for (int place = 10; place <= 80; place += 14) {
            for (int high = 12; high <= 24; high += 4) {
                for (int what = 0; what <= 7; what++) {
                    Check.same("six: nearest(" + place + ", " + high + ", " + what + ")",
                        lamp.nearest(place, high, what), model.nearest(place, high, what));
                }
            }
        }
        for (int away = 0; away <= 12; away += 3) {
            fewest(lamp, 40, 17, away, 3, model.fewest(40, 17, away, 3));
            fewest(lamp, 62, 22, away, 3, model.fewest(62, 22, away, 3));
        }
    }
}
