/** Promises 13 (mayGo), 14 (needed), 17 (note), 18 (clear), 19 (fits) and 20 (fit). */
public final class SetsTest {
    /** Pulls 10 and 6, and one SLACK: raw height 20 by the second, HIGH 19, PLACE 34. */
    private static final String THREE = "kite a plain at 10 lift 5 least 0 long 12;"
        + "kite b plain at 30 lift 3 least 0 long 20;kite c plain at 50 lift 9 least 30 long 8;";

    public static void main(String[] args) {
        mayGo();
        needed();
        neededByMany();
        notes();
        fits();
        fitsByTheMinute();
        fitsWithLostOnes();
        Check.finish("SetsTest");
    }

    private static void mayGo(KiteLamp lamp, int high, int due) {
        Check.same("mayGo(" + high + ")", lamp.mayGo(high), due);
    }

    private static void mayGo() {
        KiteLamp lamp = Told.under("lamp 4;" + THREE);
        mayGo(lamp, 0, 7);
        mayGo(lamp, 11, 7);
        mayGo(lamp, 12, 5);
        mayGo(lamp, 19, 5);
        mayGo(lamp, 20, 4);
        mayGo(lamp, 21, 0);
        mayGo(lamp, 40, 0);
        mayGo(lamp, 41, -1);
        mayGo(lamp, -1, -1);
        mayGo(lamp, Integer.MIN_VALUE, -1);
        mayGo(lamp, Integer.MAX_VALUE, -1);
        lamp.lose(2, false);
        // One that is LOST is gone already and never among them, though HIGH is 20 without it.
        mayGo(lamp, 20, 1);
        mayGo(lamp, 12, 3);
        mayGo(lamp, 13, 1);
        lamp.lose(0, false);
        mayGo(lamp, 0, 2);
        mayGo(lamp, 1, 0);
        mayGo(lamp, 20, 0);
        mayGo(lamp, 21, 0);
        Check.same("LOST ones", lamp.count(6), 2);
        lamp.lose(1, false);
        mayGo(lamp, 0, 0);
        mayGo(lamp, 41, -1);
        // FOUND it is there again, SLACK with its line of length 0.
        lamp.lose(2, true);
        mayGo(lamp, 0, 4);
        mayGo(lamp, 1, 0);
    }

    private static void needed(KiteLamp lamp, int high, int many, int which) {
        Check.same("needed(" + high + ", 0)", lamp.needed(high, 0), many);
        Check.same("needed(" + high + ", 1)", lamp.needed(high, 1), which);
    }

    private static void needed() {
        KiteLamp lamp = Told.under("lamp 4;" + THREE);
        needed(lamp, 0, 0, 0);
        needed(lamp, 1, 1, 1);
        needed(lamp, 12, 1, 1);
        needed(lamp, 13, 1, 2);
        // With all of them HIGH is 19 only.
        needed(lamp, 20, 1, 2);
        needed(lamp, 21, -1, -1);
        needed(lamp, 41, -1, -1);
        needed(lamp, -1, -1, -1);
        Check.same("needed(0, 2)", lamp.needed(0, 2), -1);
        Check.same("needed(0, -1)", lamp.needed(0, -1), -1);
        Check.same("needed(0, greatest int)", lamp.needed(0, Integer.MAX_VALUE), -1);
        lamp.lose(1, false);
        needed(lamp, 12, 1, 1);
        needed(lamp, 13, -1, -1);
        lamp.lose(0, false);
        needed(lamp, 0, 0, 0);
        needed(lamp, 1, -1, -1);
        needed(Told.under("lamp 0;" + THREE), 40, 0, 0);
    }

    private static void neededByMany() {
        KiteLamp lamp = Told.under("lamp 15;" + THREE);
        needed(lamp, 12, 2, 3);
        needed(lamp, 13, -1, -1);
        String four = "kite a plain at 1 lift 1 least 0 long 9;kite b plain at 1 lift 4 least 0 long 9;"
            + "kite c plain at 1 lift 5 least 0 long 9;kite d plain at 1 lift 5 least 0 long 9;";
        // Pulls 2, 8, 10, 10: of pairs that come to 18 the least as bits is b and c.
        needed(Told.under("lamp 18;" + four), 9, 2, 6);
        needed(Told.under("lamp 19;" + four), 9, 2, 12);
        needed(Told.under("lamp 10;" + four), 9, 1, 4);
        needed(Told.under("lamp 21;" + four), 9, 3, 13);
        needed(Told.under("lamp 30;" + four), 9, 4, 15);
        needed(Told.under("lamp 31;" + four), 9, -1, -1);
        needed(Told.under("lamp 31;" + four), 0, 0, 0);
    }

    private static void notes() {
        KiteLamp lamp = Told.under("lamp 4;" + THREE);
        int[][] wrong = {{-1, 0, 0}, {10000, 0, 0}, {0, -1, 0}, {0, 1000, 0}, {0, 0, -1}, {0, 0, 41},
            {Integer.MAX_VALUE, 0, 0}, {0, Integer.MIN_VALUE, 0}};
        for (int[] call : wrong) {
            Check.same("note(" + call[0] + ", " + call[1] + ", " + call[2] + ")",
                lamp.note(call[0], call[1], call[2]), -1);
        }
        Check.same("no note", lamp.count(7), 0);
        for (int i = 1; i <= 10; i++) {
            Check.same("note " + i, lamp.note(i == 1 ? 9999 : 0, i == 2 ? 999 : 0, i == 3 ? 40 : 0), i);
        }
        Check.same("note 11", lamp.note(0, 0, 0), -1);
        Check.same("count(7)", lamp.count(7), 10);
        Check.same("clear()", lamp.clear(), true);
        Check.same("count(7)", lamp.count(7), 0);
        Check.same("clear() again", lamp.clear(), true);
        Check.same("note 1 again", lamp.note(0, 34, 20), 1);
        lamp.run(5);
        Check.same("notes stay as minutes go by", lamp.count(7), 1);
    }

    private static void fit(KiteLamp lamp, int... sets) {
        Check.same("fits()", lamp.fits(), sets.length);
        for (int i = 0; i < sets.length; i++) {
            Check.same("fit(" + i + ")", lamp.fit(i), sets[i]);
        }
        int[] none = {-1, sets.length, 64, Integer.MIN_VALUE, Integer.MAX_VALUE};
        for (int i : none) {
            Check.same("fit(" + i + ")", lamp.fit(i), -1);
        }
    }

    private static void fits() {
        KiteLamp lamp = Told.under("lamp 4;" + THREE);
        fit(lamp, 0, 1, 2, 3, 4, 5, 6, 7);
        lamp.note(0, 34, 19);
        fit(lamp, 0, 1);
        lamp.note(0, 34, 19);
        fit(lamp, 0, 1);
        lamp.note(7, 34, 20);
        fit(lamp);
        lamp.clear();
        lamp.note(7, 34, 20);
        fit(lamp, 4, 5);
        lamp.clear();
        lamp.note(0, 14, 12);
        fit(lamp, 6);
        lamp.clear();
        lamp.note(0, 4, 0);
        fit(lamp, 3, 7);
        lamp.clear();
        lamp.note(0, 34, 18);
        fit(lamp);
        StringBuilder six = new StringBuilder();
        for (char name = 'a'; name <= 'f'; name++) {
            six.append("kite ").append(name).append(" plain at 0 lift 1 least 0 long 9;");
        }
        lamp = Told.under(six.toString());
        Check.same("fits() of six without notes", lamp.fits(), 64);
        Check.same("fit(63)", lamp.fit(63), 63);
        Check.same("fit(64)", lamp.fit(64), -1);
        lamp = Told.under(six + "lamp 11;");
        // Six pulls of 2 hold 11 only all together.
        lamp.note(0, 4, 9);
        fit(lamp, 0);
        lamp.clear();
        lamp.note(0, 4, 0);
        Check.same("fits() of the others", lamp.fits(), 63);
        Check.same("fit(0)", lamp.fit(0), 1);
        Check.same("fit(62)", lamp.fit(62), 63);
    }

    private static void fitsByTheMinute() {
        // The second flies from minute 5 on.
        KiteLamp lamp = Told.under("wind 10+minute;lamp 4;kite a plain at 10 lift 5 least 0 long 12;"
            + "kite b plain at 30 lift 3 least 15 long 20;");
        lamp.note(0, 12, 11);
        fit(lamp, 0);
        lamp.clear();
        lamp.note(0, 12, 12);
        fit(lamp, 2);
        lamp.clear();
        lamp.note(5, 33, 20);
        fit(lamp, 0, 1);
        lamp.note(4, 12, 11);
        fit(lamp, 0);
        // Lengths as they are now count, not those of the minute noted.
        lamp.whistle(1, 22);
        lamp.run(1);
        fit(lamp);
    }

    private static void fitsWithLostOnes() {
        KiteLamp lamp = Told.under("lamp 4;" + THREE);
        lamp.note(0, 34, 19);
        lamp.lose(1, false);
        lamp.lose(2, false);
        // Just these are LOST: whoever is LOST now is there in the other sets, at the length that is kept.
        fit(lamp, 0, 1);
        lamp.lose(1, true);
        fit(lamp);
        lamp.clear();
        lamp.note(0, 14, 10);
        fit(lamp, 0);
        Check.same("LOST ones stay", lamp.count(6), 1);
    }
}
