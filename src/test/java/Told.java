/** Feeds texts to a KiteLamp as its callers must: eight signs to a long. */
final class Told {
    /** What lamp answers here where it throws NoSuchElementException. */
    static final int THROWS = -1000;

    private Told() {
    }

    static long[] packed(String text, int from) {
        long[] three = new long[3];
        for (int i = 0; i < 24; i++) {
            int sign = from + i < text.length() ? text.charAt(from + i) : 0;
            three[i / 8] = three[i / 8] << 8 | sign;
        }
        return three;
    }

    /** The answer of the last feed. */
    static int feed(KiteLamp lamp, String text) {
        int signs = lamp.count(8);
        for (int from = 0; from < text.length(); from += 24) {
            long[] three = packed(text, from);
            signs = lamp.feed(three[0], three[1], three[2]);
        }
        return signs;
    }

    static int sky(KiteLamp lamp, String text) {
        feed(lamp, text);
        return lamp.sky();
    }

    static String kite(String name, String kind, int at, int lift, int least, int length) {
        return "kite " + name + " " + kind + " at " + at + " lift " + lift + " least " + least + " long " + length + ";";
    }

    static KiteLamp under(String text) {
        KiteLamp lamp = new KiteLamp();
        Check.same("the sky " + text, sky(lamp, text), 0);
        return lamp;
    }

    static int lamp(KiteLamp lamp, int minute, int what) {
        try {
            return lamp.lamp(minute, what);
        } catch (java.util.NoSuchElementException e) {
            return THROWS;
        }
    }
}
