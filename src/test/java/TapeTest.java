/** Promises 1 (a new object), 2 (feed) and 23 (count). */
public final class TapeTest {
    public static void main(String[] args) {
        aNewObjectHasNoKite();
        feedTakesTheHighestByteFirst();
        feedLeavesOutOtherSigns();
        everyByteInEveryPlace();
        whatIsLeftOutPartsNothing();
        theTapeEndsAtAThousand();
        aFullTapeIsTakenWhole();
        countTellsAllOfIt();
        Check.finish("TapeTest");
    }

    private static void aNewObjectHasNoKite() {
        KiteLamp lamp = new KiteLamp();
        long[] due = {0, 0, 20, 2, 5, 0, 0, 0, 0};
        for (int what = 0; what < due.length; what++) {
            Check.same("new: count(" + what + ")", lamp.count(what), due[what]);
        }
        Check.same("new: kite(0, 0)", lamp.kite(0, 0), -1);
        Check.same("new: wind(40)", lamp.wind(40), 20);
        Check.same("new: lamp(0, 0)", Told.lamp(lamp, 0, 0), 4);
        Check.same("new: lamp(0, 2)", Told.lamp(lamp, 0, 2), 0);
        Check.same("new: whistle(0, 0)", lamp.whistle(0, 0), false);
        Check.same("new: lose(0, false)", lamp.lose(0, false), false);
        Check.same("new: mark(0, true)", lamp.mark(0, true), false);
        Check.same("new: fits()", lamp.fits(), 1);
        Check.same("new: fit(0)", lamp.fit(0), 0);
        Check.same("new: fewest(4, 0, 0, 1)", lamp.fewest(4, 0, 0, 1), 0);
        Check.same("new: fewest(5, 0, 0, 1)", lamp.fewest(5, 0, 0, 1), -1);
        Check.same("new: holds(4, 0, 0, 240)", lamp.holds(4, 0, 0, 240), -1);
        Check.same("new: mean(7, 0)", lamp.mean(7, 0), 4);
        Check.same("new: lots(1, 1, 1, 0, 0)", lamp.lots(1, 1, 1, 0, 0), 1);
        Check.same("new: run(3)", lamp.run(3), 3);
        Check.same("new: sky() of nothing", lamp.sky(), 0);
        Check.same("new: count(1) behind sky()", lamp.count(1), 0);
    }

    private static void feedTakesTheHighestByteFirst() {
        KiteLamp lamp = new KiteLamp();
        // "lamp 123" ";haul 3;" "      ti" and "red 7" ";"
        Check.same("feed in order", lamp.feed(0x6c616d7020313233L, 0x3b6861756c20333bL, 0x2020202020207469L), 24);
        Check.same("feed goes on behind", lamp.feed(0x7265642037000000L, 0L, 0x3b00000000000000L), 30);
        Check.same("sky() of what was fed", lamp.sky(), 0);
        Check.same("lamp 123", lamp.count(2), 123);
        Check.same("haul 3", lamp.count(3), 3);
        Check.same("tired 7", lamp.count(4), 7);
        Check.same("the tape was taken", lamp.count(8), 0);
    }

    private static void feedLeavesOutOtherSigns() {
        KiteLamp lamp = new KiteLamp();
        Check.same("feed of nothing", lamp.feed(0, 0, 0), 0);
        Check.same("feed of 127 .. 255", lamp.feed(-1L, 0x7f80ff9fa0c0e0feL, 0x8000000000000000L), 0);
        Check.same("feed of controls", lamp.feed(0x010207080b0c0d1fL, 0x1e1b090000000000L, 0), 0);
        Check.same("feed of 10, 32 and 126", lamp.feed(0x0a000020000000ffL, 0x000000000000007eL, 0x7f0000000000000aL), 4);
        // 10, 32, 126, 10: the sign 126 stands at 2 and is no token.
        Check.same("sky() of these", lamp.sky(), 1 + 16 * 2);
        Check.same("feed behind a fault", lamp.feed(0x20, 0, 0), 1);
    }

    private static void everyByteInEveryPlace() {
        for (int sign = 0; sign <= 255; sign++) {
            KiteLamp lamp = new KiteLamp();
            int due = 0;
            for (int place = 0; place < 24; place++) {
                long[] three = new long[3];
                three[place / 8] = (long) sign << 56 - 8 * (place % 8);
                due += sign == 10 || sign >= 32 && sign <= 126 ? 1 : 0;
                Check.same("feed of the byte " + sign + " at " + place, lamp.feed(three[0], three[1], three[2]), due);
            }
        }
    }

    private static void whatIsLeftOutPartsNothing() {
        KiteLamp lamp = new KiteLamp();
        // "la", 0, 9, "mp", 127, " " and "1", 255, "2", 31, "3", 128, ";"
        Check.same("feed of parted signs", lamp.feed(0x6c6100096d707f20L, 0x31ff321f33803b00L, 0L), 9);
        Check.same("sky() of them", lamp.sky(), 0);
        Check.same("lamp 123", lamp.count(2), 123);
    }

    private static void aFullTapeIsTakenWhole() {
        KiteLamp lamp = new KiteLamp();
        Check.same("feed of 1,000 exactly", Told.feed(lamp, " ".repeat(1000)), 1000);
        Check.same("one more", lamp.feed(0x20, 0, 0), 1000);
        Check.same("sky() of a thousand blanks", lamp.sky(), 0);
        Check.same("the tape is empty", lamp.count(8), 0);
        Check.same("feed begins anew", lamp.feed(0x6c616d7020373bL, 0, 0), 7);
        Check.same("sky() of what was fed anew", lamp.sky(), 0);
        Check.same("lamp 7", lamp.count(2), 7);
        Check.same("feed of nothing keeps the tape", Told.feed(lamp, "haul") * 10 + lamp.feed(0, 0, 0), 44);
    }

    private static void theTapeEndsAtAThousand() {
        KiteLamp lamp = new KiteLamp();
        String blanks = " ".repeat(993);
        Check.same("feed of 993", Told.feed(lamp, blanks), 993);
        Check.same("feed of 9 more", Told.feed(lamp, "haul 3;;;"), 1000);
        Check.same("feed beyond", lamp.feed(0x3b3b3b3b3b3b3b3bL, 0x3b, 0), 1000);
        Check.same("count(8)", lamp.count(8), 1000);
        Check.same("sky() of the first thousand", lamp.sky(), 0);
        Check.same("haul 3", lamp.count(3), 3);
        Told.feed(lamp, " ".repeat(992));
        Check.same("sky() with a fault at 999", Told.sky(lamp, "haul 4;;"), 1 + 16 * 999);
        Told.feed(lamp, " ".repeat(994));
        Check.same("sky() with a fault at the end", Told.sky(lamp, "haul 4;"), 1 + 16 * 1000);
        Check.same("haul 3 still", lamp.count(3), 3);
    }

    private static void countTellsAllOfIt() {
        KiteLamp lamp = Told.under("lamp 999;haul 5;tired 20;gusts 50;kite a plain at 1 lift 1 least 1 long 1;"
            + "kite b box at 1 lift 1 least 1 long 1;");
        lamp.run(7);
        lamp.lose(1, false);
        lamp.note(1, 1, 1);
        lamp.note(1, 1, 1);
        lamp.feed(0x3b3b3b, 0, 0);
        long[] due = {2, 7, 999, 5, 20, 50, 1, 2, 3};
        for (int what = 0; what < due.length; what++) {
            Check.same("count(" + what + ")", lamp.count(what), due[what]);
        }
        Check.same("count(9)", lamp.count(9), -1);
        Check.same("count(-1)", lamp.count(-1), -1);
        Check.same("count(least int)", lamp.count(Integer.MIN_VALUE), -1);
    }
}
