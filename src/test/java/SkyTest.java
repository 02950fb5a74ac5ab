import java.util.List;
import java.util.Random;

/** Promise 3: what a sky is, its faults, and what its law of wind comes to. */
public final class SkyTest {
    private static final String KITE = "kite a plain at 1 lift 1 least 0 long 1;";

    public static void main(String[] args) {
        rightTexts();
        numbersAndWords();
        signsThatAreNoTokens();
        blanksAreTenAndThirtyTwo();
        wrongLines();
        onceEachWhereverItStands();
        wrongKites();
        namesThatAreNotAlike();
        namesThatAreAlike();
        wrongLaws();
        partsWithinOthers();
        nothingOfAnEarlierTape();
        lawsOfWind();
        sumsWrap();
        theDeepestLaws();
        longLawsOneBehindTheOther();
        aFaultLeavesAll();
        aFaultLeavesLostOnesAndMarks();
        aSkyBeginsAnew();
        theSameSkyAgain();
        spoiltTextsAgainstTheModel();
        signsAtRandomAgainstTheModel();
        Check.finish("SkyTest");
    }

    private static void right(String text) {
        Check.same("sky() of '" + text + "'", Told.sky(new KiteLamp(), text), 0);
    }

    private static void wrong(String text, int kind, int place) {
        Check.same("sky() of '" + text + "'", Told.sky(new KiteLamp(), text), kind + 16L * place);
    }

    private static void rightTexts() {
        right("");
        right(" \n \n");
        right("lamp 0;lamp".substring(0, 7));
        right("lamp 999;haul 1;tired 1;gusts 0;wind 0;rule 0;");
        right("gusts 50 ; tired 20\n;haul 5;");
        right("kite a plain at 0 lift 1 least 0 long 0;kite b box at 99 lift 20 least 99 long 40;");
        right("kite high tail at1lift1least1long1;kite gust heavy at 1 lift 1 least 1 long 1;");
        right("kite minute deaf at 1 lift 1 least 1 long 1;kite lean lazy at 1 lift 1 least 1 long 1;");
        right("kite abcdefgh plain at 0001 lift 0020 least 0000 long 0040;");
        right("rule long+pull+high+lean+wind+minute;wind high+minute+gust;");
        right("wind(1)<2and 3=4or not 5;");
    }

    private static void numbersAndWords() {
        right("lamp4;");
        right("lamp 0004;");
        wrong("lamp 00004;", 1, 5);
        wrong("lamp 12345;", 1, 5);
        wrong("lamp 1 2;", 1, 7);
        wrong("lamp 4x;", 1, 6);
        wrong("lampx 4;", 1, 0);
        wrong("lampions 4;", 1, 0);
        wrong("lanternlight 4;", 1, 0);
        wrong("Lamp 4;", 1, 0);
        wrong("lamp 4.", 1, 6);
        wrong("lamp -4;", 1, 5);
        wrong("lamp 4;\n~", 1, 8);
        wrong("wind 99999;", 1, 5);
        right("wind 9999;");
    }

    private static void signsThatAreNoTokens() {
        for (char sign = 33; sign <= 126; sign++) {
            boolean isToken = sign >= 'a' && sign <= 'z' || sign >= '0' && sign <= '9' || "()<=+-*;".indexOf(sign) >= 0;
            if (!isToken) {
                wrong("lamp 4;" + sign, 1, 7);
                wrong("lamp " + sign + ";", 1, 5);
                wrong("wind 1" + sign + "2;", 1, 6);
            }
        }
        // The sign itself is a token, but none that could begin a line or a PART.
        for (char sign : ")<=+-*;".toCharArray()) {
            wrong("lamp 4;" + sign, 1, 7);
            wrong("wind " + sign + "1;", 1, 5);
        }
    }

    private static void blanksAreTenAndThirtyTwo() {
        right("\nlamp\n4\n;\n\nhaul  \n 3;\n");
        right("wind\n(\n1\n<\n2\n)\n;");
        wrong("la mp 4;", 1, 0);
        wrong("la\nmp 4;", 1, 0);
        wrong("lamp 4 4;", 1, 7);
        wrong("lamp 4\n4;", 1, 7);
        wrong("\n \nlamp", 1, 7);
        wrong("lamp\n\n", 1, 6);
        wrong("windhigh;", 1, 0);
        wrong("wind 1 and2 or3 andhigh;", 1, 16);
    }

    private static void onceEachWhereverItStands() {
        String[] words = {"wind", "rule", "lamp", "haul", "tired", "gusts"};
        StringBuilder all = new StringBuilder();
        for (String word : words) {
            all.append(word).append(" 1;");
        }
        right(all.toString());
        for (String word : words) {
            wrong(all + word + " 1;", 3, all.length());
            wrong(all + KITE + " " + word, 3, all.length() + KITE.length() + 1);
            wrong(word + " 1;" + KITE + word + " 1;", 3, word.length() + 3 + KITE.length());
        }
    }

    private static void wrongLines() {
        wrong(";", 1, 0);
        wrong("4;", 1, 0);
        wrong("at 4;", 1, 0);
        wrong("high 4;", 1, 0);
        wrong("lamp", 1, 4);
        wrong("lamp  ", 1, 6);
        wrong("lamp 4", 1, 6);
        wrong("lamp 4 ", 1, 7);
        wrong("lamp 4;;", 1, 7);
        wrong("lamp 4 lamp 4;", 1, 7);
        wrong("lamp ;", 1, 5);
        wrong("lamp 1000;", 4, 5);
        wrong("haul 0;", 4, 5);
        wrong("haul 6;", 4, 5);
        wrong("tired 0;", 4, 6);
        wrong("tired 21;", 4, 6);
        wrong("gusts 51;", 4, 6);
        wrong("wind 1;wind", 3, 7);
        wrong("rule 1;rule 1;", 3, 7);
        wrong("lamp 1;lamp 1000;", 3, 7);
        wrong("haul 1; haul 1;", 3, 8);
        wrong("tired 1;tired ~", 3, 8);
        wrong("gusts 1;\ngusts 1;", 3, 9);
        wrong("haul 9;haul 1;", 4, 5);
    }

    private static void wrongKites() {
        wrong("kite", 1, 4);
        wrong("kite 1 plain at 1 lift 1 least 0 long 1;", 1, 5);
        String[] reserved = {"wind", "rule", "lamp", "haul", "tired", "gusts", "kite", "at", "lift", "least", "long",
            "plain", "box", "tail", "heavy", "deaf", "lazy", "not", "and", "or"};
        for (String word : reserved) {
            wrong("kite " + word + " plain at 1 lift 1 least 0 long 1;", 1, 5);
        }
        wrong("kite abcdefghi plain at 1 lift 1 least 0 long 1;", 1, 5);
        wrong("kite a1 plain at 1 lift 1 least 0 long 1;", 1, 6);
        wrong("kite a at 1 lift 1 least 0 long 1;", 1, 7);
        wrong("kite a plane at 1 lift 1 least 0 long 1;", 1, 7);
        wrong("kite a plain lift 1 at 1 least 0 long 1;", 1, 13);
        wrong("kite a plain at 100 lift 1 least 0 long 1;", 4, 16);
        wrong("kite a plain at 1 lift 0 least 0 long 1;", 4, 23);
        wrong("kite a plain at 1 lift 21 least 0 long 1;", 4, 23);
        wrong("kite a plain at 1 lift 1 least 100 long 1;", 4, 31);
        wrong("kite a plain at 1 lift 1 least 0 long 41;", 4, 38);
        wrong("kite a plain at 1 lift 1 least 0 long 1", 1, 39);
        wrong("kite a plain at 1 lift 1 least 0 long;", 1, 37);
        wrong(KITE + KITE, 3, KITE.length() + 5);
        wrong(KITE + "kite a", 3, KITE.length() + 5);
        StringBuilder six = new StringBuilder();
        for (char name = 'a'; name <= 'f'; name++) {
            six.append(KITE.replace("kite a", "kite " + name));
        }
        right(six.toString());
        wrong(six + "kite g", 5, six.length());
        wrong(six + KITE, 5, six.length());
        wrong(six + "lamp kite", 1, six.length() + 5);
    }

    private static String named(String... names) {
        StringBuilder text = new StringBuilder();
        for (String name : names) {
            text.append(KITE.replace("kite a", "kite " + name));
        }
        return text.toString();
    }

    private static void namesThatAreNotAlike() {
        right(named("a", "aa", "aaa", "aaaa", "aaaaaaa", "aaaaaaaa"));
        right(named("ab", "ba", "abc", "bac", "abcdefgh", "bacdefgh"));
        right(named("abcdefgh", "abcdefgi", "bbcdefgh", "abcdeegh", "abcdefg", "zbcdefgh"));
        right(named("z", "p", "zz", "qj", "az", "bj"));
        right(named("aa", "ca", "ea", "ba", "da", "ga"));
        right(named("pull", "lean", "high", "minute", "gust", "k"));
        right(named("windy", "win", "kites", "kit", "plainly", "plai"));
    }

    private static void namesThatAreAlike() {
        wrong(named("a", "b", "c", "d", "e", "a"), 3, 5 * KITE.length() + 5);
        wrong(named("a", "b", "c", "d", "e", "e"), 3, 5 * KITE.length() + 5);
        wrong(named("a", "b", "c", "b"), 3, 3 * KITE.length() + 5);
        wrong(named("abcdefgh", "x", "abcdefgh"), 3, 2 * KITE.length() + 7 + 5);
        wrong(named("high", "high"), 3, KITE.length() + 3 + 5);
        // Another kind and other numbers make no other NAME.
        wrong(KITE + "kite a box at 2 lift 2 least 2 long 2;", 3, KITE.length() + 5);
    }

    private static void wrongLaws() {
        wrong("wind ;", 1, 5);
        wrong("wind", 1, 4);
        wrong("wind long;", 1, 5);
        wrong("wind pull;", 1, 5);
        wrong("wind lean;", 1, 5);
        wrong("wind wind;", 1, 5);
        wrong("rule gust;", 1, 5);
        wrong("rule kite;", 1, 5);
        wrong("wind x;", 1, 5);
        wrong("wind 1<2<3;", 1, 8);
        wrong("wind 1=2<3;", 1, 8);
        wrong("wind 1=2=3;", 1, 8);
        right("wind 1=(2<3);");
        right("wind 1<2 and 3=4 or 5<6;");
        wrong("wind 1 and;", 1, 10);
        wrong("wind and 1;", 1, 5);
        wrong("wind 1 not 2;", 1, 7);
        wrong("wind 1+;", 1, 7);
        wrong("wind -1;", 1, 5);
        wrong("wind 1 2;", 1, 7);
        wrong("wind (1;", 1, 7);
        wrong("wind (1", 1, 7);
        wrong("wind ();", 1, 6);
        wrong("wind 1);", 1, 6);
        wrong("wind not;", 1, 8);
        wrong("wind 1/2;", 1, 6);
        wrong("wind 1+lamp 2;", 1, 7);
    }

    private static void partsWithinOthers() {
        right("wind ((((1))));");
        wrong("wind (((((1)))));", 5, 10);
        wrong("wind (((((high)))));", 5, 10);
        wrong("wind ((((((1))))));", 5, 10);
        wrong("wind (((((not 1)))));", 5, 10);
        right("wind not not not not 1;");
        wrong("wind not not not not not 1;", 5, 25);
        wrong("wind not not not not not not 1;", 5, 25);
        right("wind not(not(1));");
        wrong("wind not(not(not 1));", 5, 17);
        wrong("wind not(not((high)));", 5, 14);
        right("wind ((((1))))+((((2))))*not not((3));");
        // What could not stand there at all is the lesser fault.
        wrong("wind ((((();", 1, 10);
        wrong("wind ((((( )))));", 1, 11);
        wrong("wind (((((long)))));", 1, 10);
        wrong("wind (((((12345)))));", 1, 10);
        wrong("rule (((((", 1, 10);
        wrong("rule (((((gust", 1, 10);
        wrong("rule (((((long", 5, 10);
    }

    private static void law(String law, int due) {
        Check.same("wind(3) by " + law, Told.under("wind " + law + ";").wind(3), due);
    }

    private static void lawsOfWind() {
        law("7", 7);
        law("0", 0);
        law("99", 99);
        law("100", 99);
        law("0-1", 0);
        law("high*high+2", 11);
        law("2+high*high", 11);
        law("(2+high)*high", 15);
        law("20-5-5", 10);
        law("20-(5-5)", 20);
        law("2*3*4", 24);
        law("not 0", 1);
        law("not 8", 0);
        law("not not 8", 1);
        law("not 0*5", 5);
        law("not 5+5", 5);
        law("not high<3", 1);
        law("1 and 1", 1);
        law("0-1 and 0-1", 1);
        law("0 and 5", 0);
        law("3+(5 and 0)", 3);
        law("3+(0 and 0)", 3);
        law("3+(0 or 0)", 3);
        law("3+(0-5 or 0)", 4);
        law("3+(3<2)", 3);
        law("3+(3=2)", 3);
        law("3+not 0-1", 3);
        law("3+not(0-1)", 3);
        law("5 and 7", 1);
        law("5 and 0", 0);
        law("0 or 7", 1);
        law("0 or 0", 0);
        law("0 and 0 or 1", 1);
        law("1 or 1 and 0", 0);
        law("2<3", 1);
        law("3<3", 0);
        law("3=3", 1);
        law("2+1=high", 1);
        law("(2<3)+(3<4)", 2);
        law("0-3 and 1", 1);
        law("9*(high<4)+1*(4<high)", 9);
        law("minute+gust", 0);
        int wrapped = 9999 * 9999 * 9999;
        law("9999*9999*9999", Math.max(0, Math.min(99, wrapped)));
        law("0-9999*9999*9999", Math.max(0, Math.min(99, -wrapped)));
        law("9999*9999*22<0", 9999 * 9999 * 22 < 0 ? 1 : 0);
        law("((((high))))", 3);
        StringBuilder longest = new StringBuilder("1");
        while (longest.length() < 993) {
            longest.append("+0");
        }
        law(longest.toString(), 1);
        KiteLamp lamp = Told.under("wind minute*2+high;");
        lamp.run(5);
        Check.same("wind(1) in minute 5", lamp.wind(1), 11);
    }

    private static void nothingOfAnEarlierTape() {
        KiteLamp lamp = new KiteLamp();
        // The text ends where it ends, whatever letters, digits and signs an earlier one had there.
        String[] earlier = {"lampions 12345;", "kitekite", "lamp 12345", "wind 1+1+1+1;", "lamp 1;haul 1;tired 1;"};
        for (String before : earlier) {
            Told.sky(lamp, before);
            Check.same("sky() of 'kite' behind '" + before + "'", Told.sky(lamp, "kite"), 1 + 16 * 4);
            Told.sky(lamp, before);
            Check.same("sky() of 'lamp 1' behind '" + before + "'", Told.sky(lamp, "lamp 1"), 1 + 16 * 6);
            Told.sky(lamp, before);
            Check.same("sky() of 'lamp 9;' behind '" + before + "'", Told.sky(lamp, "lamp 9;"), 0);
            Check.same("its weight", lamp.count(2), 9);
            Told.sky(lamp, before);
            Check.same("sky() of nothing behind '" + before + "'", lamp.sky(), 0);
            Check.same("no kite", lamp.count(0), 0);
            Check.same("the weight that is not told", lamp.count(2), 20);
        }
    }

    /** At each of the five levels a left side of and, of a comparison, of a sum and of a product waits. */
    private static void theDeepestLaws() {
        String deepest = "0 or 0<1-2*1";
        int value = 0;
        law(deepest, value);
        for (int level = 1; level <= 4; level++) {
            deepest = "0 or 0<1-2*(" + deepest + ")";
            value = 1 - 2 * value > 0 ? 1 : 0;
            law(deepest, value);
        }
        wrong("wind 0 or 0<1-2*(" + deepest + ");", 5, 5 + 5 * 12);
        String others = "7";
        for (int level = 0; level < 4; level++) {
            others = "3+1*(" + others + ")";
        }
        law(others, 19);
        law("not not not not high", 1);
    }

    private static void sumsWrap() {
        // 2^31 is 2048 * 1024 * 1024; one less than it is the greatest int.
        law("2048*1024*1024<0", 1);
        law("2048*1024*1024-1<0", 0);
        law("2048*1024*1024-1+1<0", 1);
        law("2048*1024*1024-1-(2048*1024*1024)=0-1", 1);
        law("0-2048*1024*1024=2048*1024*1024", 1);
        law("4096*1024*1024", 0);
        law("4096*1024*1024+7", 7);
        law("2048*1024*1024", 0);
        law("2048*1024*1024-1", 99);
    }

    private static void aFaultLeavesLostOnesAndMarks() {
        KiteLamp lamp = Told.under("rule 1;tired 7;gusts 6;" + named("a", "b"));
        lamp.mark(1, false);
        lamp.run(3);
        lamp.lose(1, false);
        String[] faults = {"lamp", "lamp 1;lamp 1;", "lamp 1000;", named("a", "b", "c", "d", "e", "f", "g")};
        for (String fault : faults) {
            Check.that("a FAULT of " + fault, Told.sky(lamp, fault) > 0);
            long[] due = {2, 3, 20, 2, 7, 6, 1, 0, 0};
            for (int what = 0; what < due.length; what++) {
                Check.same("count(" + what + ") behind the FAULT of " + fault, lamp.count(what), due[what]);
            }
            Check.same("length", lamp.kite(0, 1), 4);
            Check.same("hauled", lamp.kite(0, 5), 3);
            Check.same("LOST", lamp.kite(1, 3), 2);
            Check.same("nothing is on mark 0", lamp.mark(0, true), false);
        }
        lamp.run(1);
        Check.same("the rule is kept to", lamp.kite(0, 1), 5);
        Check.same("mark 1 is there", lamp.mark(1, true), true);
        Check.same("its minute", lamp.count(1), 0);
        Check.same("its length", lamp.kite(0, 1), 1);
    }

    private static void aFaultLeavesAll() {
        KiteLamp lamp = Told.under("wind 30;lamp 3;haul 4;" + KITE);
        lamp.run(2);
        lamp.whistle(0, 9);
        lamp.note(1, 2, 3);
        Check.same("a faulty sky", Told.sky(lamp, "wind 10;lamp 5;kite b box at 1 lift 1 least 0 long 9"), 1 + 16 * 52);
        Check.same("its tape is taken", lamp.count(8), 0);
        Check.same("kites", lamp.count(0), 1);
        Check.same("minute", lamp.count(1), 2);
        Check.same("weight", lamp.count(2), 3);
        Check.same("haul", lamp.count(3), 4);
        Check.same("notes", lamp.count(7), 1);
        Check.same("wind", lamp.wind(0), 30);
        Check.same("kind", lamp.kite(0, 0), 0);
        Check.same("whistle", lamp.kite(0, 4), 9);
    }

    private static void aSkyBeginsAnew() {
        KiteLamp lamp = Told.under("wind 30;rule 1;lamp 3;haul 4;tired 9;gusts 7;" + KITE + KITE.replace("kite a", "kite b"));
        lamp.run(3);
        lamp.whistle(0, 30);
        lamp.lose(1, false);
        lamp.note(1, 2, 3);
        lamp.mark(2, false);
        Check.same("another sky", Told.sky(lamp, "kite b tail at 2 lift 3 least 4 long 5;"), 0);
        long[] due = {1, 0, 20, 2, 5, 0, 0, 0, 0};
        for (int what = 0; what < due.length; what++) {
            Check.same("count(" + what + ") under another sky", lamp.count(what), due[what]);
        }
        Check.same("no law of wind is told", lamp.wind(9), 20);
        long[] kite = {2, 5, 6, 0, -1, 0};
        for (int what = 0; what < kite.length; what++) {
            Check.same("kite(0, " + what + ") under another sky", lamp.kite(0, what), kite[what]);
        }
        lamp.run(1);
        Check.same("no rule is told", lamp.kite(0, 1), 5);
        Check.same("marks stay", lamp.mark(2, true), true);
        Check.same("two kites again", lamp.count(0), 2);
        Check.same("the same sky without kites", Told.sky(lamp, ""), 0);
        Check.same("no kites", lamp.count(0), 0);
    }

    private static void theSameSkyAgain() {
        KiteLamp lamp = new KiteLamp();
        String[] six = {"a", "b", "c", "d", "e", "f"};
        String all = "wind 7;rule 1;lamp 3;haul 4;tired 9;gusts 7;" + named(six);
        // What an earlier sky told, right or wrong, is told no more.
        for (int i = 0; i < 3; i++) {
            Check.same("the same sky again", Told.sky(lamp, all), 0);
            Check.same("six kites", lamp.count(0), 6);
            Check.same("others first", Told.sky(lamp, named("f", "e", "d", "c", "b", "a")), 0);
            Check.same("a FAULT in the sixth", Told.sky(lamp, named("a", "b", "c", "d", "e", "a")), 3 + 16 * (5 * KITE.length() + 5));
        }
    }

    private static void longLawsOneBehindTheOther() {
        KiteLamp lamp = new KiteLamp();
        for (int i = 1; i <= 5; i++) {
            // Hundreds of NUMBERS in each of both laws, which come to i and to i + 1.
            String law = i + "+0".repeat(240);
            Check.same("long laws", Told.sky(lamp, "wind " + law + ";rule " + (i + 1) + law.substring(1) + ";haul 5;"), 0);
            Check.same("wind(0) by a long law", lamp.wind(0), i);
        }
        Check.same("a long rule", Told.sky(lamp, "rule 3" + "+0".repeat(450) + ";haul 5;" + KITE), 0);
        lamp.run(1);
        Check.same("hauled by a long rule", lamp.kite(0, 1), 1 + 3);
    }

    private static void againstTheModel(KiteLamp lamp, String text) {
        Model model = new Model();
        for (int from = 0; from < text.length(); from += 24) {
            long[] three = Told.packed(text, from);
            model.feed(three[0], three[1], three[2]);
        }
        Check.same("sky() of '" + text + "'", Told.sky(lamp, text), model.sky());
    }

    private static void spoiltTextsAgainstTheModel() {
        Random random = new Random(77);
        Skies skies = new Skies(random);
        KiteLamp lamp = new KiteLamp();
        for (int i = 0; i < 20000; i++) {
            List<String> tokens = skies.tokens(random.nextInt(8));
            skies.spoil(tokens);
            againstTheModel(lamp, skies.text(tokens));
        }
    }

    private static void signsAtRandomAgainstTheModel() {
        Random random = new Random(78);
        KiteLamp lamp = new KiteLamp();
        String signs = "()<=+-*;;  \n0123456789highminutegustnotandor~A";
        for (int i = 0; i < 20000; i++) {
            StringBuilder text = new StringBuilder(random.nextBoolean() ? "wind " : "rule ");
            int length = random.nextInt(30);
            for (int j = 0; j < length; j++) {
                text.append(signs.charAt(random.nextInt(signs.length())));
            }
            againstTheModel(lamp, text.toString());
        }
    }
}
