/** Promise 21: lots. */
public final class LotsTest {
    public static void main(String[] args) {
        draws();
        theGreatestGust();
        seedsAtTheEnds();
        heightsAtTheEnds();
        eachNightIsFromNowOn();
        eachNightIsAsItIs();
        gustsMoveTheBoys();
        elsewhereTheGustIsNone();
        wrongLots();
        allStaysAsItIs();
        Check.finish("LotsTest");
    }

    private static void lots(KiteLamp lamp, int seed, int nights, int minutes, int high, int often, int least) {
        String call = "lots(" + seed + ", " + nights + ", " + minutes + ", " + high + ", ";
        Check.same(call + "0)", lamp.lots(seed, nights, minutes, high, 0), often);
        Check.same(call + "1)", lamp.lots(seed, nights, minutes, high, 1), least);
    }

    private static void draws() {
        // From seed 1 on g / 65536 is 16838 5758 10113 17515 31051 5627 23010 7419 16212 4086: below 10 that is
        // 8 8 3 5 1 7 0 9 2 6. The kite flies from a gust of 5 on.
        String sky = "wind gust;lamp 1;kite a plain at 10 lift 20 least 5 long 10;";
        KiteLamp lamp = Told.under(sky + "gusts 9;");
        lots(lamp, 1, 1, 1, 10, 1, 10);
        lots(lamp, 1, 1, 2, 10, 2, 10);
        lots(lamp, 1, 1, 3, 10, 2, 0);
        lots(lamp, 1, 1, 10, 10, 6, 0);
        lots(lamp, 1, 2, 5, 10, 6, 0);
        lots(lamp, 1, 5, 2, 10, 6, 0);
        lots(lamp, 1, 10, 1, 0, 10, 0);
        lots(lamp, 1, 10, 1, 11, 0, 0);
        // Below 7: 3 4 5 1 6 6 1 6 0 5.
        lots(Told.under(sky + "gusts 6;"), 1, 1, 10, 10, 5, 0);
        lots(Told.under(sky), 1, 1, 10, 10, 0, 0);
        lots(lamp, 0, 20, 60, 10, often(0, 1200), 0);
        lots(lamp, 9999, 20, 60, 10, often(9999, 1200), 0);
        Check.same("the gust is 0 but in lots", lamp.wind(10), 0);
    }

    private static void theGreatestGust() {
        // Of the draws below 10 the eighth is a 9: the gust is as great as told, but never greater.
        String kite = "lamp 1;kite a plain at 10 lift 20 least 9 long 10;";
        lots(Told.under("wind gust;gusts 9;" + kite), 1, 1, 7, 10, 0, 0);
        lots(Told.under("wind gust;gusts 9;" + kite), 1, 1, 8, 10, 1, 0);
        lots(Told.under("wind gust;gusts 8;" + kite), 0, 20, 60, 10, 0, 0);
        lots(Told.under("wind gust+1;gusts 8;" + kite), 1, 20, 60, 10, draws(1, 1200, 9, 8), 0);
        // Below 51 each comes: of 1,200 draws many are 50, none is 51.
        String strong = "lamp 1;kite a plain at 10 lift 20 least 50 long 10;";
        lots(Told.under("wind gust;gusts 50;" + strong), 7, 20, 60, 10, draws(7, 1200, 51, 50), 0);
        lots(Told.under("wind gust-1;gusts 50;" + strong), 7, 20, 60, 10, 0, 0);
        // Without gusts each draw is 0.
        lots(Told.under("wind 20-gust;gusts 0;lamp 1;kite a plain at 10 lift 20 least 20 long 10;"), 7, 20, 60, 10, 1200, 10);
        lots(Told.under("wind 20-gust;gusts 1;lamp 1;kite a plain at 10 lift 20 least 20 long 10;"), 7, 20, 60, 10,
            1200 - draws(7, 1200, 2, 1), 0);
    }

    /** How many of so many draws below m come to this. */
    private static int draws(long seed, int many, int below, int wanted) {
        long g = seed;
        int often = 0;
        for (int i = 0; i < many; i++) {
            g = g * 1103515245L + 12345L & (1L << 31) - 1;
            often += (g >> 16) % below == wanted ? 1 : 0;
        }
        Check.that("draws below " + below + " come to " + wanted, often > 0);
        return often;
    }

    private static void seedsAtTheEnds() {
        // From seed 0 on the first g is 12345, and the draw 0.
        String kite = "wind gust;gusts 50;lamp 1;kite a plain at 10 lift 20 least 1 long 10;";
        lots(Told.under(kite), 0, 1, 1, 10, 0, 0);
        long g = (9999 * 1103515245L + 12345L) % 2147483648L;
        int first = (int) (g / 65536 % 51);
        KiteLamp lamp = Told.under(kite.replace("least 1 ", "least " + first + " "));
        lots(lamp, 9999, 1, 1, 10, 1, 10);
        lamp = Told.under(kite.replace("least 1 ", "least " + (first + 1) + " "));
        lots(lamp, 9999, 1, 1, 10, 0, 0);
    }

    private static void heightsAtTheEnds() {
        KiteLamp lamp = Told.under("lamp 4;kite a plain at 10 lift 5 least 0 long 40;");
        lots(lamp, 3, 2, 5, 40, 10, 40);
        lots(lamp, 3, 2, 5, 0, 10, 40);
        lamp = Told.under("lamp 4;kite a plain at 10 lift 5 least 0 long 39;");
        lots(lamp, 3, 2, 5, 40, 0, 39);
        lots(lamp, 3, 2, 5, 39, 10, 39);
        lots(new KiteLamp(), 3, 20, 60, 0, 1200, 0);
        lots(new KiteLamp(), 3, 20, 60, 1, 0, 0);
    }

    private static int often(long seed, int draws) {
        java.math.BigInteger g = java.math.BigInteger.valueOf(seed);
        int often = 0;
        for (int i = 0; i < draws; i++) {
            g = g.multiply(java.math.BigInteger.valueOf(1103515245)).add(java.math.BigInteger.valueOf(12345))
                .mod(java.math.BigInteger.valueOf(2147483648L));
            often += g.longValue() / 65536 % 10 >= 5 ? 1 : 0;
        }
        return often;
    }

    private static void eachNightIsFromNowOn() {
        KiteLamp lamp = Told.under("rule 1;lamp 4;kite a plain at 10 lift 5 least 0 long 10;");
        lots(lamp, 5, 3, 3, 10, 9, 10);
        lots(lamp, 5, 3, 3, 11, 6, 10);
        lots(lamp, 5, 3, 3, 12, 3, 10);
        lots(lamp, 5, 3, 3, 13, 0, 10);
        lamp.run(2);
        lots(lamp, 5, 3, 3, 13, 6, 12);
        lots(Told.under("lamp 0;"), 5, 20, 60, 40, 1200, 40);
    }

    private static void eachNightIsAsItIs() {
        String one = "lamp 4;kite a plain at 10 lift 5 least 0 long 10;";
        KiteLamp lamp = Told.under("rule 1;tired 2;" + one);
        lamp.run(2);
        // Tired at once, in each night: 12 12 13.
        lots(lamp, 5, 2, 3, 13, 2, 12);
        lots(lamp, 5, 2, 2, 13, 0, 12);
        lamp = Told.under(one);
        lamp.whistle(0, 4);
        // Hauled in, in each night: 10 8 6 4 4.
        lots(lamp, 5, 2, 5, 8, 4, 4);
        lots(lamp, 5, 3, 2, 10, 3, 8);
        lamp = Told.under("rule 1;" + one.replace("plain", "lazy"));
        lamp.run(1);
        // A lazy boy rests in minute 1: 11 11 12.
        lots(lamp, 5, 2, 3, 12, 2, 11);
        lamp.lose(0, false);
        lots(lamp, 5, 2, 3, 1, 0, 0);
        lots(lamp, 5, 2, 3, 0, 6, 0);
    }

    private static void gustsMoveTheBoys() {
        // By the draws 8 8 3 5 1 7: the boy hauls one out while the wind at his line is 12 or more.
        KiteLamp lamp = Told.under("wind 5+gust;gusts 9;lamp 1;rule 11<wind;kite a plain at 10 lift 5 least 0 long 10;");
        lots(lamp, 1, 1, 6, 11, 5, 10);
        lots(lamp, 1, 1, 6, 12, 4, 10);
        lots(lamp, 1, 1, 7, 13, 1, 10);
        lots(lamp, 1, 3, 2, 11, 1, 10);
    }

    private static void elsewhereTheGustIsNone() {
        // Any gust would still the wind.
        KiteLamp lamp = Told.under("wind 20*(gust=0);gusts 50;lamp 4;rule wind=20;"
            + "kite a plain at 10 lift 5 least 20 long 10;kite b plain at 10 lift 5 least 20 long 10;");
        Check.same("kite(0, 2)", lamp.kite(0, 2), 10);
        Check.same("kite(0, 3)", lamp.kite(0, 3), 0);
        Check.same("wind(7)", lamp.wind(7), 20);
        Check.same("lamp(3, 0)", Told.lamp(lamp, 3, 0), 14);
        Check.same("nearest(14, 12, 0)", lamp.nearest(14, 12, 0), 0);
        Check.same("fewest(14, 12, 0, 2)", lamp.fewest(14, 12, 0, 2), 1);
        Check.same("holds(14, 10, 2, 9)", lamp.holds(14, 10, 2, 9), 3);
        Check.same("mayGo(10)", lamp.mayGo(10), 3);
        Check.same("needed(10, 0)", lamp.needed(10, 0), 1);
        Check.same("mean(9, 0)", lamp.mean(9, 0), 14);
        lamp.note(0, 14, 10);
        Check.same("fits()", lamp.fits(), 3);
        lamp.run(2);
        Check.same("kite(0, 1)", lamp.kite(0, 1), 12);
    }

    private static void wrongLots() {
        KiteLamp lamp = Told.under("gusts 3;");
        int[][] wrong = {{-1, 1, 1, 0, 0}, {10000, 1, 1, 0, 0}, {0, 0, 1, 0, 0}, {0, 21, 1, 0, 0}, {0, 1, 0, 0, 0},
            {0, 1, 61, 0, 0}, {0, 1, 1, -1, 0}, {0, 1, 1, 41, 0}, {0, 1, 1, 41, 1}, {0, 1, 1, 0, -1}, {0, 1, 1, 0, 2},
            {Integer.MIN_VALUE, 1, 1, 0, 0}, {0, Integer.MAX_VALUE, 1, 0, 0}, {0, 1, Integer.MAX_VALUE, 0, 0}};
        for (int[] call : wrong) {
            Check.same("lots(" + java.util.Arrays.toString(call) + ")",
                lamp.lots(call[0], call[1], call[2], call[3], call[4]), -1);
        }
        lots(lamp, 9999, 20, 60, 0, 1200, 0);
    }

    private static void allStaysAsItIs() {
        KiteLamp lamp = Told.under("gusts 3;rule 1;kite a plain at 10 lift 5 least 0 long 10;");
        lamp.run(1);
        lamp.whistle(0, 20);
        lamp.lots(1, 2, 30, 4, 0);
        Check.same("minute", lamp.count(1), 1);
        Check.same("length", lamp.kite(0, 1), 11);
        Check.same("whistle", lamp.kite(0, 4), 20);
        Check.same("hauled", lamp.kite(0, 5), 1);
    }
}
