/** Promises 13 (mayGo), 14 (needed), 17 (note), 18 (clear), 19 (fits) and 20 (fit). */
public final class SetsTest {
    /** Pulls 10 and 6, and one SLACK: raw height 20 by the second, HIGH 19, PLACE 34. */
    private static final String THREE = "kite a plain at 10 lift 5 least 0 long 12;"
        + "kite b plain at 30 lift 3 least 0 long 20;kite c plain at 50 lift 9 least 30 long 8;";

    public static void main(String[] args) {
        mayGo();
        mayGoOfSix();
        mayGoIsOfNow();
        needed();
        neededByMany();
        neededOfSix();
        notes();
        aRefusedNoteIsNotKept();
        clearLeavesAllElse();
        fits();
        fitsByEachPartOfANote();
        fitsByAllOfTenNotes();
        fitsByTheMinute();
        fitsWithLostOnes();
        Check.finish("SetsTest");
    }

    private static void mayGo(KiteLamp lamp, int high, int due) {
        Check.same("mayGo(" + high + ")", lamp.mayGo(high), due);
    }

    private static void mayGo() {
        KiteLamp lamp = Told.under("lamp 4;" + THREE);
        mayGo(lamp, 0, 7);
        mayGo(lamp, 11, 7);
        mayGo(lamp, 12, 5);
        mayGo(lamp, 19, 5);
        mayGo(lamp, 20, 4);
        mayGo(lamp, 21, 0);
        mayGo(lamp, 40, 0);
        mayGo(lamp, 41, -1);
        mayGo(lamp, -1, -1);
        mayGo(lamp, Integer.MIN_VALUE, -1);
        mayGo(lamp, Integer.MAX_VALUE, -1);
        lamp.lose(2, false);
        // One that is LOST is gone already and never among them, though HIGH is 20 without it.
        mayGo(lamp, 20, 1);
        mayGo(lamp, 12, 3);
        mayGo(lamp, 13, 1);
        lamp.lose(0, false);
        mayGo(lamp, 0, 2);
        mayGo(lamp, 1, 0);
        mayGo(lamp, 20, 0);
        mayGo(lamp, 21, 0);
        Check.same("LOST ones", lamp.count(6), 2);
        lamp.lose(1, false);
        mayGo(lamp, 0, 0);
        mayGo(lamp, 41, -1);
        // FOUND it is there again, SLACK with its line of length 0.
        lamp.lose(2, true);
        mayGo(lamp, 0, 4);
        mayGo(lamp, 1, 0);
    }

    private static String six(String lines) {
        StringBuilder six = new StringBuilder(lines);
        for (char name = 'a'; name <= 'f'; name++) {
            six.append("kite ").append(name).append(" plain at 0 lift 1 least 0 long 9;");
        }
        return six.toString();
    }

    private static void mayGoOfSix() {
        // Pulls of 2 each: five hold 10, but not 11.
        mayGo(Told.under(six("lamp 10;")), 9, 63);
        mayGo(Told.under(six("lamp 11;")), 9, 0);
        mayGo(Told.under(six("lamp 11;")), 0, 63);
        mayGo(Told.under(six("lamp 10;")), 10, 0);
        KiteLamp lamp = Told.under(six("lamp 0;"));
        mayGo(lamp, 40, 63);
        lamp.lose(0, false);
        lamp.lose(5, false);
        mayGo(lamp, 40, 30);
        mayGo(lamp, 0, 30);
        lamp = Told.under(six("lamp 8;"));
        lamp.lose(3, false);
        mayGo(lamp, 9, 55);
        lamp.lose(4, false);
        // Four are just enough: each of them must stay.
        mayGo(lamp, 9, 0);
        mayGo(lamp, 0, 39);
        mayGo(new KiteLamp(), 0, 0);
        mayGo(new KiteLamp(), 40, 0);
        mayGo(new KiteLamp(), 41, -1);
    }

    private static void mayGoIsOfNow() {
        KiteLamp lamp = Told.under("wind 10+minute*10;lamp 15;rule 1;kite a plain at 10 lift 5 least 0 long 10;"
            + "kite b plain at 30 lift 10 least 0 long 10;");
        // Pulls 5 and 10, then 10 and 20, then 15 and 30.
        mayGo(lamp, 10, 0);
        needed(lamp, 10, 2, 3);
        lamp.run(1);
        mayGo(lamp, 11, 1);
        mayGo(lamp, 12, 0);
        needed(lamp, 11, 1, 2);
        lamp.run(1);
        mayGo(lamp, 12, 3);
        needed(lamp, 12, 1, 1);
        Check.same("none is LOST by asking", lamp.count(6), 0);
        Check.same("no minute goes by", lamp.count(1), 2);
    }

    private static void neededOfSix() {
        needed(Told.under(six("lamp 12;")), 9, 6, 63);
        needed(Told.under(six("lamp 13;")), 9, -1, -1);
        needed(Told.under(six("lamp 10;")), 9, 5, 31);
        needed(Told.under(six("lamp 1;")), 9, 1, 1);
        KiteLamp lamp = Told.under(six("lamp 6;"));
        lamp.lose(0, false);
        lamp.lose(2, false);
        needed(lamp, 9, 3, 2 + 8 + 16);
        lamp.lose(1, false);
        needed(lamp, 9, 3, 8 + 16 + 32);
        lamp.lose(5, false);
        needed(lamp, 9, -1, -1);
        needed(lamp, 0, 0, 0);
        needed(Told.under(six("lamp 0;")), 40, 0, 0);
        needed(new KiteLamp(), 0, 0, 0);
        needed(new KiteLamp(), 1, -1, -1);
        // Two of the first would do as well as one of the last, but more are not fewer.
        needed(Told.under("lamp 10;kite a plain at 1 lift 3 least 0 long 9;kite b plain at 1 lift 3 least 0 long 9;"
            + "kite c plain at 1 lift 5 least 0 long 9;"), 9, 1, 4);
    }

    private static void aRefusedNoteIsNotKept() {
        KiteLamp lamp = Told.under("lamp 4;" + THREE);
        lamp.note(0, 34, 19);
        Check.same("note(10000, 34, 19)", lamp.note(10000, 34, 19), -1);
        Check.same("note(0, 1000, 19)", lamp.note(0, 1000, 19), -1);
        Check.same("note(0, 34, 41)", lamp.note(0, 34, 41), -1);
        Check.same("count(7)", lamp.count(7), 1);
        fit(lamp, 0, 1);
        for (int i = 2; i <= 10; i++) {
            Check.same("note " + i, lamp.note(0, 34, 19), i);
        }
        // The eleventh would fit no set.
        Check.same("note 11", lamp.note(0, 0, 0), -1);
        Check.same("count(7)", lamp.count(7), 10);
        fit(lamp, 0, 1);
    }

    private static void clearLeavesAllElse() {
        KiteLamp lamp = Told.under("rule 1;lamp 4;" + THREE);
        Check.same("clear() without a note", lamp.clear(), true);
        lamp.run(2);
        lamp.whistle(0, 30);
        lamp.lose(2, false);
        Told.feed(lamp, "haul");
        lamp.note(1, 1, 1);
        Check.same("clear()", lamp.clear(), true);
        long[] due = {3, 2, 4, 2, 5, 0, 1, 0, 4};
        for (int what = 0; what < due.length; what++) {
            Check.same("count(" + what + ") behind clear()", lamp.count(what), due[what]);
        }
        Check.same("length", lamp.kite(0, 1), 14);
        Check.same("whistle", lamp.kite(0, 4), 30);
        Check.same("hauled", lamp.kite(0, 5), 2);
        for (int i = 1; i <= 10; i++) {
            Check.same("note " + i + " behind clear()", lamp.note(0, 0, 0), i);
        }
    }

    private static void fitsByEachPartOfANote() {
        KiteLamp lamp = Told.under("wind 20+minute*5;lamp 4;kite a plain at 10 lift 5 least 0 long 12;");
        int[][] notes = {{2, 16, 12, 1}, {2, 15, 12, 0}, {2, 17, 12, 0}, {2, 16, 11, 0}, {2, 16, 13, 0}, {1, 16, 12, 0},
            {3, 16, 12, 0}, {0, 14, 12, 1}, {9999, 29, 12, 1}, {9999, 19, 0, 1}, {9999, 29, 0, 0}};
        for (int[] note : notes) {
            lamp.clear();
            lamp.note(note[0], note[1], note[2]);
            Check.same("fits() by note(" + note[0] + ", " + note[1] + ", " + note[2] + ")", lamp.fits(), note[3]);
        }
        lamp.clear();
        lamp.note(0, 4, 0);
        fit(lamp, 1);
        // The minute that is now has no part in it.
        lamp.run(7);
        fit(lamp, 1);
        KiteLamp none = new KiteLamp();
        none.note(0, 4, 0);
        fit(none, 0);
        none.note(0, 5, 0);
        fit(none);
    }

    private static void fitsByAllOfTenNotes() {
        KiteLamp lamp = Told.under("wind 20+minute*5;lamp 4;kite a plain at 10 lift 5 least 0 long 12;"
            + "kite b plain at 10 lift 5 least 0 long 12;");
        for (int i = 0; i < 9; i++) {
            lamp.note(i, 14 + i, 12);
        }
        fit(lamp, 0, 1, 2);
        lamp.note(9, 14 + 9, 11);
        fit(lamp);
    }

    private static void needed(KiteLamp lamp, int high, int many, int which) {
        Check.same("needed(" + high + ", 0)", lamp.needed(high, 0), many);
        Check.same("needed(" + high + ", 1)", lamp.needed(high, 1), which);
    }

    private static void needed() {
        KiteLamp lamp = Told.under("lamp 4;" + THREE);
        needed(lamp, 0, 0, 0);
        needed(lamp, 1, 1, 1);
        needed(lamp, 12, 1, 1);
        needed(lamp, 13, 1, 2);
        // With all of them HIGH is 19 only.
        needed(lamp, 20, 1, 2);
        needed(lamp, 21, -1, -1);
        needed(lamp, 41, -1, -1);
        needed(lamp, -1, -1, -1);
        Check.same("needed(0, 2)", lamp.needed(0, 2), -1);
        Check.same("needed(0, -1)", lamp.needed(0, -1), -1);
        Check.same("needed(0, greatest int)", lamp.needed(0, Integer.MAX_VALUE), -1);
        lamp.lose(1, false);
        needed(lamp, 12, 1, 1);
        needed(lamp, 13, -1, -1);
        lamp.lose(0, false);
        needed(lamp, 0, 0, 0);
        needed(lamp, 1, -1, -1);
        needed(Told.under("lamp 0;" + THREE), 40, 0, 0);
    }

    private static void neededByMany() {
        KiteLamp lamp = Told.under("lamp 15;" + THREE);
        needed(lamp, 12, 2, 3);
        needed(lamp, 13, -1, -1);
        String four = "kite a plain at 1 lift 1 least 0 long 9;kite b plain at 1 lift 4 least 0 long 9;"
            + "kite c plain at 1 lift 5 least 0 long 9;kite d plain at 1 lift 5 least 0 long 9;";
        // Pulls 2, 8, 10, 10: of pairs that come to 18 the least as bits is b and c.
        needed(Told.under("lamp 18;" + four), 9, 2, 6);
        needed(Told.under("lamp 19;" + four), 9, 2, 12);
        needed(Told.under("lamp 10;" + four), 9, 1, 4);
        needed(Told.under("lamp 21;" + four), 9, 3, 13);
        needed(Told.under("lamp 30;" + four), 9, 4, 15);
        needed(Told.under("lamp 31;" + four), 9, -1, -1);
        needed(Told.under("lamp 31;" + four), 0, 0, 0);
    }

    private static void notes() {
        KiteLamp lamp = Told.under("lamp 4;" + THREE);
        int[][] wrong = {{-1, 0, 0}, {10000, 0, 0}, {0, -1, 0}, {0, 1000, 0}, {0, 0, -1}, {0, 0, 41},
            {Integer.MAX_VALUE, 0, 0}, {0, Integer.MIN_VALUE, 0}};
        for (int[] call : wrong) {
            Check.same("note(" + call[0] + ", " + call[1] + ", " + call[2] + ")",
                lamp.note(call[0], call[1], call[2]), -1);
        }
        Check.same("no note", lamp.count(7), 0);
        for (int i = 1; i <= 10; i++) {
            Check.same("note " + i, lamp.note(i == 1 ? 9999 : 0, i == 2 ? 999 : 0, i == 3 ? 40 : 0), i);
        }
        Check.same("note 11", lamp.note(0, 0, 0), -1);
        Check.same("count(7)", lamp.count(7), 10);
        Check.same("clear()", lamp.clear(), true);
        Check.same("count(7)", lamp.count(7), 0);
        Check.same("clear() again", lamp.clear(), true);
        Check.same("note 1 again", lamp.note(0, 34, 20), 1);
        lamp.run(5);
        Check.same("notes stay as minutes go by", lamp.count(7), 1);
    }

    private static void fit(KiteLamp lamp, int... sets) {
        Check.same("fits()", lamp.fits(), sets.length);
        for (int i = 0; i < sets.length; i++) {
            Check.same("fit(" + i + ")", lamp.fit(i), sets[i]);
        }
        int[] none = {-1, sets.length, 64, Integer.MIN_VALUE, Integer.MAX_VALUE};
        for (int i : none) {
            Check.same("fit(" + i + ")", lamp.fit(i), -1);
        }
    }

    private static void fits() {
        KiteLamp lamp = Told.under("lamp 4;" + THREE);
        fit(lamp, 0, 1, 2, 3, 4, 5, 6, 7);
        lamp.note(0, 34, 19);
        fit(lamp, 0, 1);
        lamp.note(0, 34, 19);
        fit(lamp, 0, 1);
        lamp.note(7, 34, 20);
        fit(lamp);
        lamp.clear();
        lamp.note(7, 34, 20);
        fit(lamp, 4, 5);
        lamp.clear();
        lamp.note(0, 14, 12);
        fit(lamp, 6);
        lamp.clear();
        lamp.note(0, 4, 0);
        fit(lamp, 3, 7);
        lamp.clear();
        lamp.note(0, 34, 18);
        fit(lamp);
        lamp = Told.under(six(""));
        Check.same("fits() of six without notes", lamp.fits(), 64);
        Check.same("fit(63)", lamp.fit(63), 63);
        Check.same("fit(64)", lamp.fit(64), -1);
        lamp = Told.under(six("lamp 11;"));
        // Six pulls of 2 hold 11 only all together.
        lamp.note(0, 4, 9);
        fit(lamp, 0);
        lamp.clear();
        lamp.note(0, 4, 0);
        Check.same("fits() of the others", lamp.fits(), 63);
        Check.same("fit(0)", lamp.fit(0), 1);
        Check.same("fit(62)", lamp.fit(62), 63);
    }

    private static void fitsByTheMinute() {
        // The second flies from minute 5 on.
        KiteLamp lamp = Told.under("wind 10+minute;lamp 4;kite a plain at 10 lift 5 least 0 long 12;"
            + "kite b plain at 30 lift 3 least 15 long 20;");
        lamp.note(0, 12, 11);
        fit(lamp, 0);
        lamp.clear();
        lamp.note(0, 12, 12);
        fit(lamp, 2);
        lamp.clear();
        lamp.note(5, 33, 20);
        fit(lamp, 0, 1);
        lamp.note(4, 12, 11);
        fit(lamp, 0);
        // Lengths as they are now count, not those of the minute noted.
        lamp.whistle(1, 22);
        lamp.run(1);
        fit(lamp);
    }

    private static void fitsWithLostOnes() {
        KiteLamp lamp = Told.under("lamp 4;" + THREE);
        lamp.note(0, 34, 19);
        lamp.lose(1, false);
        lamp.lose(2, false);
        // Just these are LOST: whoever is LOST now is there in the other sets, at the length that is kept.
        fit(lamp, 0, 1);
        lamp.lose(1, true);
        fit(lamp);
        lamp.clear();
        lamp.note(0, 14, 10);
        fit(lamp, 0);
        Check.same("LOST ones stay", lamp.count(6), 1);
    }
}
