/** Promise 22: mark. */
public final class MarkTest {
    private static final String SKY = "wind 30;rule 1;lamp 3;haul 4;tired 9;gusts 7;"
        + "kite a plain at 10 lift 5 least 0 long 10;kite b box at 10 lift 5 least 0 long 10;";

    public static void main(String[] args) {
        wrongMarks();
        aMarkHoldsAll();
        aMarkHoldsItsNotes();
        aMarkOfANewObject();
        aRefusedMarkLeavesAll();
        aMarkStays();
        marksAreFour();
        theTapeIsNotOnIt();
        Check.finish("MarkTest");
    }

    private static void wrongMarks() {
        KiteLamp lamp = new KiteLamp();
        int[] wrong = {-1, 4, Integer.MIN_VALUE, Integer.MAX_VALUE};
        for (int mark : wrong) {
            Check.same("mark(" + mark + ", false)", lamp.mark(mark, false), false);
            Check.same("mark(" + mark + ", true)", lamp.mark(mark, true), false);
        }
        for (int mark = 0; mark < 4; mark++) {
            Check.same("mark(" + mark + ", true) before one is laid", lamp.mark(mark, true), false);
        }
        Check.same("mark(3, false)", lamp.mark(3, false), true);
        Check.same("mark(2, true)", lamp.mark(2, true), false);
        Check.same("mark(3, true)", lamp.mark(3, true), true);
    }

    private static void aMarkHoldsAll() {
        KiteLamp lamp = Told.under(SKY);
        lamp.run(3);
        lamp.whistle(0, 30);
        lamp.run(1);
        lamp.lose(1, false);
        lamp.note(5, 14, 17);
        Check.same("mark(1, false)", lamp.mark(1, false), true);
        lamp.run(9);
        lamp.lose(1, true);
        lamp.whistle(0, 2);
        lamp.clear();
        lamp.note(1, 1, 1);
        lamp.note(2, 2, 2);
        Check.same("another sky", Told.sky(lamp, "wind 10;lamp 9;kite z deaf at 1 lift 1 least 0 long 7;"), 0);
        Check.same("mark(1, true)", lamp.mark(1, true), true);
        long[] due = {2, 4, 3, 4, 9, 7, 1, 1, 0};
        for (int what = 0; what < due.length; what++) {
            Check.same("count(" + what + ") behind the mark", lamp.count(what), due[what]);
        }
        long[] first = {0, 17, 15, 0, 30, 4};
        long[] second = {1, 14, 0, 2, -1, 0};
        for (int what = 0; what < first.length; what++) {
            Check.same("kite(0, " + what + ") behind the mark", lamp.kite(0, what), first[what]);
            Check.same("kite(1, " + what + ") behind the mark", lamp.kite(1, what), second[what]);
        }
        Check.same("the law of wind", lamp.wind(3), 30);
        Check.same("PLACE", Told.lamp(lamp, 5, 0), 16);
        Check.same("fits() by the note", lamp.fits(), 0);
        lamp.run(3);
        Check.same("the whistle is hauled for", lamp.kite(0, 1), 29);
    }

    private static void aMarkHoldsItsNotes() {
        KiteLamp lamp = Told.under("wind 20+minute*5;lamp 4;kite a plain at 10 lift 5 least 0 long 12;");
        lamp.note(2, 16, 12);
        lamp.note(3, 17, 12);
        lamp.mark(2, false);
        lamp.clear();
        lamp.note(9, 0, 9);
        lamp.note(9, 0, 9);
        lamp.note(9, 0, 9);
        lamp.mark(3, false);
        Check.same("fits() by the wrong notes", lamp.fits(), 0);
        lamp.mark(2, true);
        Check.same("notes of mark 2", lamp.count(7), 2);
        Check.same("fits() by its notes", lamp.fits(), 1);
        Check.same("fit(0)", lamp.fit(0), 0);
        lamp.note(4, 18, 12);
        Check.same("fits() by one more", lamp.fits(), 1);
        lamp.note(4, 18, 11);
        Check.same("fits() by a wrong one", lamp.fits(), 0);
        lamp.mark(2, true);
        Check.same("mark 2 has two still", lamp.count(7), 2);
        Check.same("fits() by these", lamp.fits(), 1);
        lamp.mark(3, true);
        Check.same("notes of mark 3", lamp.count(7), 3);
        Check.same("fits() by them", lamp.fits(), 0);
    }

    private static void aMarkOfANewObject() {
        KiteLamp lamp = new KiteLamp();
        lamp.run(4);
        lamp.note(1, 4, 0);
        Check.same("mark(0, false)", lamp.mark(0, false), true);
        Told.sky(lamp, SKY);
        Check.same("mark(0, true)", lamp.mark(0, true), true);
        long[] due = {0, 4, 20, 2, 5, 0, 0, 1, 0};
        for (int what = 0; what < due.length; what++) {
            Check.same("count(" + what + ") behind a new object's mark", lamp.count(what), due[what]);
        }
        Check.same("no law of wind", lamp.wind(3), 20);
        Check.same("no kite", lamp.kite(0, 0), -1);
    }

    private static void aRefusedMarkLeavesAll() {
        KiteLamp lamp = Told.under(SKY);
        lamp.run(2);
        lamp.whistle(0, 33);
        lamp.mark(0, false);
        lamp.run(1);
        int[] refused = {-1, 4, 1, 2, 3};
        for (int mark : refused) {
            Check.same("mark(" + mark + ", true)", lamp.mark(mark, true), false);
            Check.same("the minute", lamp.count(1), 3);
            Check.same("the length", lamp.kite(0, 1), 16);
        }
        Check.same("mark(4, false)", lamp.mark(4, false), false);
        Check.same("mark(-1, false)", lamp.mark(-1, false), false);
        Check.same("mark(0, true)", lamp.mark(0, true), true);
        Check.same("the minute of mark 0", lamp.count(1), 2);
        Check.same("its whistle", lamp.kite(0, 4), 33);
        // Whatever is whistled from here on is not on the mark.
        lamp.whistle(0, 5);
        lamp.mark(0, true);
        Check.same("its whistle still", lamp.kite(0, 4), 33);
    }

    private static void aMarkStays() {
        KiteLamp lamp = Told.under(SKY);
        lamp.mark(0, false);
        for (int i = 0; i < 3; i++) {
            lamp.run(2);
            lamp.note(1, 1, 1);
            lamp.lose(0, false);
            Check.same("mark(0, true) again", lamp.mark(0, true), true);
            Check.same("length", lamp.kite(0, 1), 10);
            Check.same("hauled", lamp.kite(0, 5), 0);
            Check.same("minute", lamp.count(1), 0);
            Check.same("notes", lamp.count(7), 0);
            Check.same("LOST ones", lamp.count(6), 0);
        }
        lamp.run(2);
        Check.same("laid anew", lamp.mark(0, false), true);
        lamp.run(2);
        lamp.mark(0, true);
        Check.same("minute of the new one", lamp.count(1), 2);
    }

    private static void marksAreFour() {
        KiteLamp lamp = Told.under(SKY);
        for (int mark = 0; mark < 4; mark++) {
            lamp.mark(mark, false);
            lamp.run(1);
        }
        for (int mark = 3; mark >= 0; mark--) {
            Check.same("mark(" + mark + ", true)", lamp.mark(mark, true), true);
            Check.same("minute of mark " + mark, lamp.count(1), mark);
            Check.same("length of mark " + mark, lamp.kite(0, 1), 10 + mark);
        }
    }

    private static void theTapeIsNotOnIt() {
        KiteLamp lamp = Told.under(SKY);
        Told.feed(lamp, "haul");
        lamp.mark(0, false);
        Told.feed(lamp, " 3;");
        lamp.mark(0, true);
        Check.same("signs on the tape", lamp.count(8), 7);
        Check.same("sky()", lamp.sky(), 0);
        Check.same("haul", lamp.count(3), 3);
    }
}
