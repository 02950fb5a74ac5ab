/** Promises 7 (whistle), 8 (lose) and 9 (run). */
public final class BoysTest {
    public static void main(String[] args) {
        whistles();
        wrongWhistles();
        whistlesGoBeforeTheRule();
        rules();
        rulesKnowWhatWasSo();
        tiredBoysRest();
        lazyBoysRest();
        lostAndFound();
        wrongRuns();
        Check.finish("BoysTest");
    }

    /** Lengths of a kite behind each of the next minutes. */
    private static void goes(KiteLamp lamp, int kite, int... lengths) {
        for (int length : lengths) {
            int minute = lamp.run(1);
            Check.same("length of kite " + kite + " at minute " + minute, lamp.kite(kite, 1), length);
        }
    }

    private static void whistles() {
        KiteLamp lamp = Told.under("haul 3;" + Told.kite("a", "plain", 1, 1, 0, 10));
        Check.same("whistle(0, 17)", lamp.whistle(0, 17), true);
        Check.same("its length", lamp.kite(0, 4), 17);
        Check.same("nothing is hauled yet", lamp.kite(0, 1), 10);
        goes(lamp, 0, 13, 16);
        Check.same("hauled", lamp.kite(0, 5), 2);
        Check.same("still whistled", lamp.kite(0, 4), 17);
        goes(lamp, 0, 17);
        Check.same("over", lamp.kite(0, 4), -1);
        Check.same("hauled", lamp.kite(0, 5), 3);
        goes(lamp, 0, 17);
        Check.same("not hauling takes the tiredness off", lamp.kite(0, 5), 0);
        Check.same("whistle(0, 0)", lamp.whistle(0, 0), true);
        goes(lamp, 0, 14);
        Check.same("whistle(0, 40) instead", lamp.whistle(0, 40), true);
        Check.same("its length", lamp.kite(0, 4), 40);
        goes(lamp, 0, 17);
        Check.same("whistle for the length that is there", lamp.whistle(0, 17), true);
        Check.same("over at once", lamp.kite(0, 4), -1);
        goes(lamp, 0, 17);
    }

    private static void wrongWhistles() {
        KiteLamp lamp = Told.under(Told.kite("a", "plain", 1, 1, 0, 10) + Told.kite("b", "deaf", 1, 1, 0, 10)
            + Told.kite("c", "lazy", 1, 1, 0, 10));
        int[][] wrong = {{-1, 5}, {3, 5}, {6, 5}, {0, -1}, {0, 41}, {1, 5}, {1, 10}, {Integer.MIN_VALUE, 5},
            {0, Integer.MAX_VALUE}};
        for (int[] call : wrong) {
            Check.same("whistle(" + call[0] + ", " + call[1] + ")", lamp.whistle(call[0], call[1]), false);
        }
        Check.same("whistle(2, 5)", lamp.whistle(2, 5), true);
        lamp.lose(0, false);
        Check.same("whistle for a LOST one", lamp.whistle(0, 5), false);
        Check.same("no whistle", lamp.kite(0, 4), -1);
        Check.same("none for a deaf one", lamp.kite(1, 4), -1);
    }

    private static void whistlesGoBeforeTheRule() {
        KiteLamp lamp = Told.under("rule 1;" + Told.kite("a", "plain", 1, 1, 0, 10) + Told.kite("b", "deaf", 1, 1, 0, 10));
        lamp.whistle(0, 7);
        goes(lamp, 0, 8, 7, 8, 9);
        Check.same("the deaf one kept to the rule", lamp.kite(1, 1), 14);
    }

    private static void rules() {
        goes(Told.under("rule 9;" + Told.kite("a", "plain", 1, 1, 0, 10)), 0, 12, 14);
        goes(Told.under("rule 0-9;" + Told.kite("a", "plain", 1, 1, 0, 3)), 0, 1, 0, 0);
        goes(Told.under("rule 1;haul 5;" + Told.kite("a", "plain", 1, 1, 0, 10)), 0, 11, 12);
        goes(Told.under("rule 5;haul 5;" + Told.kite("a", "plain", 1, 1, 0, 37)), 0, 40, 40);
        goes(Told.under("rule 20-long;haul 3;" + Told.kite("a", "plain", 1, 1, 0, 15)), 0, 18, 20, 20);
        goes(Told.under("rule 9999*9999*9999*9999;haul 4;" + Told.kite("a", "plain", 1, 1, 0, 20)), 0,
            9999 * 9999 * 9999 * 9999 < 0 ? 16 : 24);
        goes(Told.under(Told.kite("a", "plain", 1, 1, 0, 10)), 0, 10, 10);
        goes(Told.under("rule minute=2;" + Told.kite("a", "plain", 1, 1, 0, 10)), 0, 10, 10, 11, 11);
    }

    private static void rulesKnowWhatWasSo() {
        String wind = "wind 10+high;lamp 1;";
        String one = Told.kite("a", "plain", 30, 5, 0, 10);
        // PULL 10, WIND 20 at its length, HIGH 10, PLACE 34, so lean 4.
        goes(Told.under(wind + "rule pull=10;" + one), 0, 11, 12, 12);
        goes(Told.under(wind + "rule wind=20;" + one), 0, 11, 11);
        goes(Told.under(wind + "rule high=10;" + one), 0, 11, 11);
        goes(Told.under(wind + "rule lean=4;" + one), 0, 11, 12, 13, 14, 15, 15, 15);
        goes(Told.under(wind + "rule long=10;" + one), 0, 11, 11);
        // The second boy hauls by where the lamp was before the first one hauled.
        KiteLamp lamp = Told.under(wind + "rule high=10;" + one + Told.kite("b", "plain", 30, 5, 0, 5));
        lamp.run(1);
        Check.same("first", lamp.kite(0, 1), 11);
        Check.same("second", lamp.kite(1, 1), 6);
        lamp.run(1);
        Check.same("first", lamp.kite(0, 1), 11);
        Check.same("second", lamp.kite(1, 1), 6);
        // lean is below 0 where the lamp hangs on this side of the winch.
        lamp = Told.under("lamp 1;rule lean<0;" + Told.kite("a", "plain", 10, 5, 0, 20) + Told.kite("b", "plain", 90, 5, 0, 10));
        lamp.run(1);
        Check.same("lean 4", lamp.kite(0, 1), 20);
        Check.same("lean 14 less 90", lamp.kite(1, 1), 11);
    }

    private static void tiredBoysRest() {
        KiteLamp lamp = Told.under("rule 1;tired 2;" + Told.kite("a", "plain", 1, 1, 0, 10));
        goes(lamp, 0, 11, 12);
        Check.same("hauled twice", lamp.kite(0, 5), 2);
        goes(lamp, 0, 12);
        Check.same("rested", lamp.kite(0, 5), 0);
        goes(lamp, 0, 13, 14, 14, 15);
        goes(Told.under("rule 1;tired 1;" + Told.kite("a", "plain", 1, 1, 0, 10)), 0, 11, 11, 12, 12);
        goes(Told.under("rule 1;" + Told.kite("a", "plain", 1, 1, 0, 10)), 0, 11, 12, 13, 14, 15, 15, 16);
        // Not hauling in minute 1 takes the tiredness off.
        goes(Told.under("rule not(minute=1);tired 2;" + Told.kite("a", "plain", 1, 1, 0, 10)), 0, 11, 11, 12, 13, 13, 14);
        // At the end of the line nothing changes, so nobody has hauled.
        lamp = Told.under("rule 1;tired 2;" + Told.kite("a", "plain", 1, 1, 0, 39));
        goes(lamp, 0, 40, 40);
        Check.same("the line did not change", lamp.kite(0, 5), 0);
        // A tired boy's whistle waits.
        lamp = Told.under("tired 1;haul 2;" + Told.kite("a", "plain", 1, 1, 0, 10));
        lamp.whistle(0, 13);
        goes(lamp, 0, 12, 12);
        Check.same("the whistle waits", lamp.kite(0, 4), 13);
        goes(lamp, 0, 13);
        Check.same("the whistle is over", lamp.kite(0, 4), -1);
    }

    private static void lazyBoysRest() {
        KiteLamp lamp = Told.under("rule 1;tired 1;" + Told.kite("a", "lazy", 1, 1, 0, 10));
        goes(lamp, 0, 11, 11, 12, 12);
        Check.same("rested", lamp.kite(0, 5), 0);
        goes(lamp, 0, 13);
        Check.same("hauled", lamp.kite(0, 5), 1);
        lamp = Told.under(Told.kite("a", "lazy", 1, 1, 0, 10));
        lamp.run(1);
        lamp.whistle(0, 20);
        goes(lamp, 0, 10, 12, 12, 14);
    }

    private static void lostAndFound() {
        KiteLamp lamp = Told.under("rule 1;haul 1;" + Told.kite("a", "plain", 1, 1, 0, 10) + Told.kite("b", "box", 1, 1, 0, 10));
        lamp.run(2);
        lamp.whistle(0, 30);
        Check.same("lose(0, true) of one that is there", lamp.lose(0, true), false);
        Check.same("its line stays", lamp.kite(0, 1), 12);
        Check.same("lose(0, false)", lamp.lose(0, false), true);
        Check.same("lose(0, false) again", lamp.lose(0, false), false);
        Check.same("LOST", lamp.kite(0, 3), 2);
        Check.same("no whistle", lamp.kite(0, 4), -1);
        Check.same("not tired", lamp.kite(0, 5), 0);
        Check.same("LOST ones", lamp.count(6), 1);
        goes(lamp, 0, 12, 12);
        Check.same("the other boy hauls", lamp.kite(1, 1), 14);
        Check.same("lose(0, true)", lamp.lose(0, true), true);
        Check.same("lose(0, true) again", lamp.lose(0, true), false);
        Check.same("length 0", lamp.kite(0, 1), 0);
        Check.same("SLACK", lamp.kite(0, 3), 1);
        Check.same("LOST ones", lamp.count(6), 0);
        goes(lamp, 0, 1, 2);
        Check.same("FLIES", lamp.kite(0, 3), 0);
        int[] wrong = {-1, 2, 6, Integer.MIN_VALUE, Integer.MAX_VALUE};
        for (int kite : wrong) {
            Check.same("lose(" + kite + ", false)", lamp.lose(kite, false), false);
            Check.same("lose(" + kite + ", true)", lamp.lose(kite, true), false);
        }
    }

    private static void wrongRuns() {
        KiteLamp lamp = Told.under("rule 1;tired 20;" + Told.kite("a", "plain", 1, 1, 0, 0));
        int[] wrong = {0, -1, 1001, Integer.MIN_VALUE, Integer.MAX_VALUE};
        for (int minutes : wrong) {
            Check.same("run(" + minutes + ")", lamp.run(minutes), -1);
        }
        Check.same("no minute went by", lamp.count(1), 0);
        Check.same("run(1)", lamp.run(1), 1);
        Check.same("run(22)", lamp.run(22), 23);
        Check.same("one rest in 23", lamp.kite(0, 1), 22);
        Check.same("run(1000)", lamp.run(1000), 1023);
        Check.same("count(1)", lamp.count(1), 1023);
        Check.same("the line is out", lamp.kite(0, 1), 40);
    }
}
