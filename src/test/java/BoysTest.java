/** Promises 7 (whistle), 8 (lose) and 9 (run). */
public final class BoysTest {
    public static void main(String[] args) {
        whistles();
        whistlesForTheEnds();
        wrongWhistles();
        aRefusedWhistleLeavesTheOther();
        whistlesGoBeforeTheRule();
        rules();
        rulesAtTheEndsOfAnInt();
        rulesKnowWhatWasSo();
        rulesWithoutALawOfWind();
        tiredBoysRest();
        aWhistleTakesNoTirednessOff();
        lazyBoysRest();
        sixBoysEachByHimself();
        lostAndFound();
        lostWhileTired();
        wrongRuns();
        Check.finish("BoysTest");
    }

    /** Lengths of a kite behind each of the next minutes. */
    private static void goes(KiteLamp lamp, int kite, int... lengths) {
        for (int length : lengths) {
            int minute = lamp.run(1);
            Check.same("length of kite " + kite + " at minute " + minute, lamp.kite(kite, 1), length);
        }
    }

    private static void whistles() {
        KiteLamp lamp = Told.under("haul 3;" + Told.kite("a", "plain", 1, 1, 0, 10));
        Check.same("whistle(0, 17)", lamp.whistle(0, 17), true);
        Check.same("its length", lamp.kite(0, 4), 17);
        Check.same("nothing is hauled yet", lamp.kite(0, 1), 10);
        goes(lamp, 0, 13, 16);
        Check.same("hauled", lamp.kite(0, 5), 2);
        Check.same("still whistled", lamp.kite(0, 4), 17);
        goes(lamp, 0, 17);
        Check.same("over", lamp.kite(0, 4), -1);
        Check.same("hauled", lamp.kite(0, 5), 3);
        goes(lamp, 0, 17);
        Check.same("not hauling takes the tiredness off", lamp.kite(0, 5), 0);
        Check.same("whistle(0, 0)", lamp.whistle(0, 0), true);
        goes(lamp, 0, 14);
        Check.same("whistle(0, 40) instead", lamp.whistle(0, 40), true);
        Check.same("its length", lamp.kite(0, 4), 40);
        goes(lamp, 0, 17);
        Check.same("whistle for the length that is there", lamp.whistle(0, 17), true);
        Check.same("over at once", lamp.kite(0, 4), -1);
        goes(lamp, 0, 17);
    }

    private static void whistlesForTheEnds() {
        KiteLamp lamp = Told.under("haul 5;tired 20;" + Told.kite("a", "plain", 1, 1, 0, 3) + Told.kite("b", "box", 1, 1, 0, 36));
        Check.same("whistle(0, 0)", lamp.whistle(0, 0), true);
        Check.same("whistle(1, 40)", lamp.whistle(1, 40), true);
        Check.same("its length is 0", lamp.kite(0, 4), 0);
        lamp.run(1);
        Check.same("in", lamp.kite(0, 1), 0);
        Check.same("out", lamp.kite(1, 1), 40);
        Check.same("over at 0", lamp.kite(0, 4), -1);
        Check.same("over at 40", lamp.kite(1, 4), -1);
        // As far as the haul goes exactly, and one farther.
        lamp = Told.under("haul 3;" + Told.kite("a", "plain", 1, 1, 0, 10) + Told.kite("b", "plain", 1, 1, 0, 10));
        lamp.whistle(0, 13);
        lamp.whistle(1, 6);
        lamp.run(1);
        Check.same("13 is there", lamp.kite(0, 1), 13);
        Check.same("over", lamp.kite(0, 4), -1);
        Check.same("6 is not there", lamp.kite(1, 1), 7);
        Check.same("not over", lamp.kite(1, 4), 6);
    }

    private static void aRefusedWhistleLeavesTheOther() {
        KiteLamp lamp = Told.under(Told.kite("a", "plain", 1, 1, 0, 10));
        lamp.whistle(0, 20);
        Check.same("whistle(0, 41)", lamp.whistle(0, 41), false);
        Check.same("whistle(0, -1)", lamp.whistle(0, -1), false);
        Check.same("whistle(1, 5)", lamp.whistle(1, 5), false);
        Check.same("the whistle that is there", lamp.kite(0, 4), 20);
        goes(lamp, 0, 12);
        Check.same("lose(0, true) is refused", lamp.lose(0, true), false);
        Check.same("the whistle that is there", lamp.kite(0, 4), 20);
        Check.same("hauled", lamp.kite(0, 5), 1);
        Check.same("run(0) is refused", lamp.run(0), -1);
        Check.same("nothing was hauled by it", lamp.kite(0, 1), 12);
    }

    private static void wrongWhistles() {
        KiteLamp lamp = Told.under(Told.kite("a", "plain", 1, 1, 0, 10) + Told.kite("b", "deaf", 1, 1, 0, 10)
            + Told.kite("c", "lazy", 1, 1, 0, 10));
        int[][] wrong = {{-1, 5}, {3, 5}, {6, 5}, {0, -1}, {0, 41}, {1, 5}, {1, 10}, {Integer.MIN_VALUE, 5},
            {0, Integer.MAX_VALUE}};
        for (int[] call : wrong) {
            Check.same("whistle(" + call[0] + ", " + call[1] + ")", lamp.whistle(call[0], call[1]), false);
        }
        Check.same("whistle(2, 5)", lamp.whistle(2, 5), true);
        lamp.lose(0, false);
        Check.same("whistle for a LOST one", lamp.whistle(0, 5), false);
        Check.same("no whistle", lamp.kite(0, 4), -1);
        Check.same("none for a deaf one", lamp.kite(1, 4), -1);
    }

    private static void whistlesGoBeforeTheRule() {
        KiteLamp lamp = Told.under("rule 1;" + Told.kite("a", "plain", 1, 1, 0, 10) + Told.kite("b", "deaf", 1, 1, 0, 10));
        lamp.whistle(0, 7);
        goes(lamp, 0, 8, 7, 8, 9);
        Check.same("the deaf one kept to the rule", lamp.kite(1, 1), 14);
    }

    private static void rules() {
        goes(Told.under("rule 9;" + Told.kite("a", "plain", 1, 1, 0, 10)), 0, 12, 14);
        goes(Told.under("rule 0-9;" + Told.kite("a", "plain", 1, 1, 0, 3)), 0, 1, 0, 0);
        goes(Told.under("rule 1;haul 5;" + Told.kite("a", "plain", 1, 1, 0, 10)), 0, 11, 12);
        goes(Told.under("rule 5;haul 5;" + Told.kite("a", "plain", 1, 1, 0, 37)), 0, 40, 40);
        goes(Told.under("rule 20-long;haul 3;" + Told.kite("a", "plain", 1, 1, 0, 15)), 0, 18, 20, 20);
        goes(Told.under("rule 9999*9999*9999*9999;haul 4;" + Told.kite("a", "plain", 1, 1, 0, 20)), 0,
            9999 * 9999 * 9999 * 9999 < 0 ? 16 : 24);
        goes(Told.under(Told.kite("a", "plain", 1, 1, 0, 10)), 0, 10, 10);
        goes(Told.under("rule minute=2;" + Told.kite("a", "plain", 1, 1, 0, 10)), 0, 10, 10, 11, 11);
    }

    private static void rulesAtTheEndsOfAnInt() {
        String one = Told.kite("a", "plain", 1, 1, 0, 20);
        goes(Told.under("rule 2048*1024*1024;haul 5;" + one), 0, 15);
        goes(Told.under("rule 2048*1024*1024-1;haul 5;" + one), 0, 25);
        // As much as the haul exactly, one less and one more, either way.
        goes(Told.under("rule 3;haul 3;" + one), 0, 23);
        goes(Told.under("rule 2;haul 3;" + one), 0, 22);
        goes(Told.under("rule 4;haul 3;" + one), 0, 23);
        goes(Told.under("rule 0-3;haul 3;" + one), 0, 17);
        goes(Told.under("rule 0-2;haul 3;" + one), 0, 18);
        goes(Told.under("rule 0-4;haul 3;" + one), 0, 17);
        goes(Told.under("rule 0;haul 3;" + one), 0, 20, 20);
    }

    private static void rulesWithoutALawOfWind() {
        // WIND is 20 everywhere: PULL 10, HIGH 11 less one for the SLACK kite, PLACE 34.
        String sky = Told.kite("a", "plain", 30, 5, 0, 11) + Told.kite("b", "plain", 30, 5, 99, 11);
        goes(Told.under("lamp 1;rule high=10;" + sky), 0, 12, 12);
        goes(Told.under("lamp 1;rule wind=20;" + sky), 0, 12, 13);
        goes(Told.under("lamp 1;rule pull=10;" + sky), 0, 12, 13);
        goes(Told.under("lamp 1;rule pull=0;" + sky), 1, 12, 13);
        goes(Told.under("lamp 1;rule lean=4;" + sky), 0, 12, 13);
        goes(Told.under("lamp 1;rule minute=1;" + sky), 0, 11, 12, 12);
        goes(Told.under("lamp 1;rule long=11;" + sky), 0, 12, 12);
    }

    private static void aWhistleTakesNoTirednessOff() {
        KiteLamp lamp = Told.under("tired 3;haul 1;" + Told.kite("a", "plain", 1, 1, 0, 10));
        lamp.whistle(0, 12);
        goes(lamp, 0, 11, 12);
        lamp.whistle(0, 20);
        Check.same("hauled twice still", lamp.kite(0, 5), 2);
        goes(lamp, 0, 13, 13, 14);
        // The other way counts as hauling, too.
        lamp.whistle(0, 0);
        goes(lamp, 0, 13, 12, 12, 11);
        lamp.whistle(0, 11);
        Check.same("over at once", lamp.kite(0, 4), -1);
        Check.same("hauled once still", lamp.kite(0, 5), 1);
    }

    private static void sixBoysEachByHimself() {
        StringBuilder sky = new StringBuilder("tired 2;haul 3;");
        String[] kinds = {"plain", "box", "tail", "heavy", "deaf", "lazy"};
        for (int k = 0; k < 6; k++) {
            sky.append(Told.kite("k" + (char) ('a' + k), kinds[k], 1, 1, 0, 10 + k));
        }
        KiteLamp lamp = Told.under(sky.toString());
        for (int k = 0; k < 6; k++) {
            int length = k == 5 ? 20 : 20 - k;
            Check.same("whistle(" + k + ", " + length + ")", lamp.whistle(k, length), k != 4);
        }
        // In minute 2 the tired ones rest, the lazy one rests in minutes 1 and 3, the deaf one heard nothing.
        int[][] lengths = {{13, 16, 16, 19}, {14, 17, 17, 19}, {15, 18, 18, 18}, {16, 17, 17, 17}, {14, 14, 14, 14},
            {18, 18, 20, 20}};
        int[][] hauled = {{1, 2, 0, 1}, {1, 2, 0, 1}, {1, 2, 0, 0}, {1, 2, 0, 0}, {0, 0, 0, 0}, {1, 0, 1, 0}};
        for (int minute = 0; minute < 4; minute++) {
            lamp.run(1);
            for (int k = 0; k < 6; k++) {
                Check.same("length of " + k + " behind minute " + minute, lamp.kite(k, 1), lengths[k][minute]);
                Check.same("hauled of " + k + " behind minute " + minute, lamp.kite(k, 5), hauled[k][minute]);
            }
        }
        Check.same("still whistled", lamp.kite(0, 4), 20);
        for (int k = 1; k < 6; k++) {
            Check.same("no whistle for " + k, lamp.kite(k, 4), -1);
        }
    }

    private static void lostWhileTired() {
        KiteLamp lamp = Told.under("rule 1;tired 2;" + Told.kite("a", "plain", 1, 1, 0, 10) + Told.kite("b", "deaf", 1, 1, 0, 0));
        lamp.run(2);
        Check.same("tired", lamp.kite(0, 5), 2);
        lamp.lose(0, false);
        Check.same("not tired any more", lamp.kite(0, 5), 0);
        Check.same("its length is kept", lamp.kite(0, 1), 12);
        lamp.lose(0, true);
        // Not tired, he hauls at once, while the other one rests.
        lamp.run(1);
        Check.same("hauls from 0", lamp.kite(0, 1), 1);
        Check.same("rests", lamp.kite(1, 1), 2);
        Check.same("no whistle came back", lamp.kite(0, 4), -1);
        Check.same("a deaf one is LOST by hand", lamp.lose(1, false), true);
        Check.same("a deaf one is FOUND", lamp.lose(1, true), true);
        Check.same("with length 0", lamp.kite(1, 1), 0);
        // FOUND with a length of 0: a whistle for 0 is over at once.
        lamp.lose(0, false);
        lamp.lose(0, true);
        Check.same("whistle(0, 0)", lamp.whistle(0, 0), true);
        Check.same("over at once", lamp.kite(0, 4), -1);
    }

    private static void rulesKnowWhatWasSo() {
        String wind = "wind 10+high;lamp 1;";
        String one = Told.kite("a", "plain", 30, 5, 0, 10);
        // PULL 10, WIND 20 at its length, HIGH 10, PLACE 34, so lean 4.
        goes(Told.under(wind + "rule pull=10;" + one), 0, 11, 12, 12);
        goes(Told.under(wind + "rule wind=20;" + one), 0, 11, 11);
        goes(Told.under(wind + "rule high=10;" + one), 0, 11, 11);
        goes(Told.under(wind + "rule lean=4;" + one), 0, 11, 12, 13, 14, 15, 15, 15);
        goes(Told.under(wind + "rule long=10;" + one), 0, 11, 11);
        // The second boy hauls by where the lamp was before the first one hauled.
        KiteLamp lamp = Told.under(wind + "rule high=10;" + one + Told.kite("b", "plain", 30, 5, 0, 5));
        lamp.run(1);
        Check.same("first", lamp.kite(0, 1), 11);
        Check.same("second", lamp.kite(1, 1), 6);
        lamp.run(1);
        Check.same("first", lamp.kite(0, 1), 11);
        Check.same("second", lamp.kite(1, 1), 6);
        // lean is below 0 where the lamp hangs on this side of the winch.
        lamp = Told.under("lamp 1;rule lean<0;" + Told.kite("a", "plain", 10, 5, 0, 20) + Told.kite("b", "plain", 90, 5, 0, 10));
        lamp.run(1);
        Check.same("lean 4", lamp.kite(0, 1), 20);
        Check.same("lean 14 less 90", lamp.kite(1, 1), 11);
    }

    private static void tiredBoysRest() {
        KiteLamp lamp = Told.under("rule 1;tired 2;" + Told.kite("a", "plain", 1, 1, 0, 10));
        goes(lamp, 0, 11, 12);
        Check.same("hauled twice", lamp.kite(0, 5), 2);
        goes(lamp, 0, 12);
        Check.same("rested", lamp.kite(0, 5), 0);
        goes(lamp, 0, 13, 14, 14, 15);
        goes(Told.under("rule 1;tired 1;" + Told.kite("a", "plain", 1, 1, 0, 10)), 0, 11, 11, 12, 12);
        goes(Told.under("rule 1;" + Told.kite("a", "plain", 1, 1, 0, 10)), 0, 11, 12, 13, 14, 15, 15, 16);
        // Not hauling in minute 1 takes the tiredness off.
        goes(Told.under("rule not(minute=1);tired 2;" + Told.kite("a", "plain", 1, 1, 0, 10)), 0, 11, 11, 12, 13, 13, 14);
        // At the end of the line nothing changes, so nobody has hauled.
        lamp = Told.under("rule 1;tired 2;" + Told.kite("a", "plain", 1, 1, 0, 39));
        goes(lamp, 0, 40, 40);
        Check.same("the line did not change", lamp.kite(0, 5), 0);
        // A tired boy's whistle waits.
        lamp = Told.under("tired 1;haul 2;" + Told.kite("a", "plain", 1, 1, 0, 10));
        lamp.whistle(0, 13);
        goes(lamp, 0, 12, 12);
        Check.same("the whistle waits", lamp.kite(0, 4), 13);
        goes(lamp, 0, 13);
        Check.same("the whistle is over", lamp.kite(0, 4), -1);
    }

    private static void lazyBoysRest() {
        KiteLamp lamp = Told.under("rule 1;tired 1;" + Told.kite("a", "lazy", 1, 1, 0, 10));
        goes(lamp, 0, 11, 11, 12, 12);
        Check.same("rested", lamp.kite(0, 5), 0);
        goes(lamp, 0, 13);
        Check.same("hauled", lamp.kite(0, 5), 1);
        lamp = Told.under(Told.kite("a", "lazy", 1, 1, 0, 10));
        lamp.run(1);
        lamp.whistle(0, 20);
        goes(lamp, 0, 10, 12, 12, 14);
    }

    private static void lostAndFound() {
        KiteLamp lamp = Told.under("rule 1;haul 1;" + Told.kite("a", "plain", 1, 1, 0, 10) + Told.kite("b", "box", 1, 1, 0, 10));
        lamp.run(2);
        lamp.whistle(0, 30);
        Check.same("lose(0, true) of one that is there", lamp.lose(0, true), false);
        Check.same("its line stays", lamp.kite(0, 1), 12);
        Check.same("lose(0, false)", lamp.lose(0, false), true);
        Check.same("lose(0, false) again", lamp.lose(0, false), false);
        Check.same("LOST", lamp.kite(0, 3), 2);
        Check.same("no whistle", lamp.kite(0, 4), -1);
        Check.same("not tired", lamp.kite(0, 5), 0);
        Check.same("LOST ones", lamp.count(6), 1);
        goes(lamp, 0, 12, 12);
        Check.same("the other boy hauls", lamp.kite(1, 1), 14);
        Check.same("lose(0, true)", lamp.lose(0, true), true);
        Check.same("lose(0, true) again", lamp.lose(0, true), false);
        Check.same("length 0", lamp.kite(0, 1), 0);
        Check.same("SLACK", lamp.kite(0, 3), 1);
        Check.same("LOST ones", lamp.count(6), 0);
        goes(lamp, 0, 1, 2);
        Check.same("FLIES", lamp.kite(0, 3), 0);
        int[] wrong = {-1, 2, 6, Integer.MIN_VALUE, Integer.MAX_VALUE};
        for (int kite : wrong) {
            Check.same("lose(" + kite + ", false)", lamp.lose(kite, false), false);
            Check.same("lose(" + kite + ", true)", lamp.lose(kite, true), false);
        }
    }

    private static void wrongRuns() {
        KiteLamp lamp = Told.under("rule 1;tired 20;" + Told.kite("a", "plain", 1, 1, 0, 0));
        int[] wrong = {0, -1, 1001, Integer.MIN_VALUE, Integer.MAX_VALUE};
        for (int minutes : wrong) {
            Check.same("run(" + minutes + ")", lamp.run(minutes), -1);
        }
        Check.same("no minute went by", lamp.count(1), 0);
        Check.same("run(1)", lamp.run(1), 1);
        Check.same("run(22)", lamp.run(22), 23);
        Check.same("one rest in 23", lamp.kite(0, 1), 22);
        Check.same("run(1000)", lamp.run(1000), 1023);
        Check.same("count(1)", lamp.count(1), 1023);
        Check.same("the line is out", lamp.kite(0, 1), 40);
    }
}
