import java.util.ArrayList;
import java.util.List;
import java.util.Random;

/** Draws texts of skies, right ones and spoilt ones. */
final class Skies {
    private static final String[] ODDMENTS = {"wind", "rule", "lamp", "haul", "tired", "gusts", "kite", "at", "lift",
        "least", "long", "plain", "box", "tail", "heavy", "deaf", "lazy", "not", "and", "or", "high", "minute", "gust",
        "pull", "lean", "abcdefgh", "abcdefghi", "x", "0", "1", "5", "6", "21", "41", "51", "100", "1000", "9999",
        "0001", "00001", "12345", "(", ")", "<", "=", "+", "-", "*", ";", "A", "/", "~", "_", ",", "\n", " ", ""};

    private final Random random;

    Skies(Random random) {
        this.random = random;
    }

    private int between(int low, int top) {
        return low + random.nextInt(top - low + 1);
    }

    private String oneOf(String... words) {
        return words[random.nextInt(words.length)];
    }

    private boolean chance(int percent) {
        return random.nextInt(100) < percent;
    }

    List<String> tokens(int kites) {
        List<List<String>> lines = new ArrayList<>();
        if (chance(80)) {
            lines.add(law("wind"));
        }
        if (chance(70)) {
            lines.add(law("rule"));
        }
        if (chance(80)) {
            lines.add(List.of("lamp", "" + (chance(10) ? between(0, 999) : between(0, 60)), ";"));
        }
        if (chance(50)) {
            lines.add(List.of("haul", "" + between(1, 5), ";"));
        }
        if (chance(50)) {
            lines.add(List.of("tired", "" + (chance(60) ? between(1, 4) : between(1, 20)), ";"));
        }
        if (chance(60)) {
            lines.add(List.of("gusts", "" + between(0, 50), ";"));
        }
        int around = between(0, 40);
        for (int k = 0; k < kites; k++) {
            int length = chance(70) ? Math.max(0, Math.min(40, around + between(-4, 4))) : between(0, 40);
            lines.add(random.nextInt(lines.size() + 1), List.of("kite", name(k),
                oneOf("plain", "box", "tail", "heavy", "deaf", "lazy"), "at", "" + between(0, 99), "lift",
                "" + between(1, 20), "least", "" + (chance(60) ? between(0, 30) : between(0, 99)), "long", "" + length,
                ";"));
        }
        List<String> all = new ArrayList<>();
        for (List<String> line : lines) {
            all.addAll(line);
        }
        return all;
    }

    private String name(int k) {
        return (chance(20) ? oneOf("high", "gust", "lean", "pull", "minute", "zzzzzz") : oneOf("k", "kit", "ates"))
            + (char) ('a' + k);
    }

    private List<String> law(String about) {
        List<String> out = new ArrayList<>();
        out.add(about);
        if (about.equals("wind")) {
            if (chance(70)) {
                out.addAll(List.of(oneOf("10", "15", "20", "30"), "+", "high", "*", oneOf("1", "2"), "+", "gust", "-"));
            }
            tests(out, new String[] {"high", "minute", "gust"}, 0);
        } else {
            if (chance(40)) {
                out.addAll(List.of(oneOf("10", "20", "30"), "-", "long", "+"));
            }
            tests(out, new String[] {"long", "pull", "high", "lean", "wind", "minute"}, 0);
        }
        out.add(";");
        return out;
    }

    private void tests(List<String> out, String[] facts, int within) {
        test(out, facts, within);
        while (chance(15)) {
            out.add(oneOf("and", "or"));
            test(out, facts, within);
        }
    }

    private void test(List<String> out, String[] facts, int within) {
        sum(out, facts, within);
        if (chance(25)) {
            out.add(oneOf("<", "="));
            sum(out, facts, within);
        }
    }

    private void sum(List<String> out, String[] facts, int within) {
        product(out, facts, within);
        while (chance(35)) {
            out.add(oneOf("+", "-"));
            product(out, facts, within);
        }
    }

    private void product(List<String> out, String[] facts, int within) {
        part(out, facts, within);
        while (chance(15)) {
            out.add("*");
            part(out, facts, within);
        }
    }

    private void part(List<String> out, String[] facts, int within) {
        int drawn = random.nextInt(100);
        if (within < 4 && drawn < 10) {
            out.add("not");
            part(out, facts, within + 1);
        } else if (within < 4 && drawn < 28) {
            out.add("(");
            tests(out, facts, within + 1);
            out.add(")");
        } else if (drawn < 60) {
            out.add("" + (chance(5) ? between(0, 9999) : between(0, 12)));
        } else {
            out.add(oneOf(facts));
        }
    }

    void spoil(List<String> tokens) {
        int times = between(1, 2);
        for (int i = 0; i < times && !tokens.isEmpty(); i++) {
            int at = random.nextInt(tokens.size());
            switch (random.nextInt(4)) {
                case 0 -> tokens.remove(at);
                case 1 -> tokens.set(at, oneOf(ODDMENTS));
                case 2 -> tokens.add(at, oneOf(ODDMENTS));
                default -> tokens.add(at, tokens.get(random.nextInt(tokens.size())));
            }
        }
    }

    /** Blanks only where two words or two numbers would run together, and elsewhere at will. */
    String text(List<String> tokens) {
        StringBuilder text = new StringBuilder();
        for (String token : tokens) {
            boolean joins = text.length() > 0 && !token.isEmpty()
                && (bothIn("[a-z]", text, token) || bothIn("[0-9]", text, token));
            if (joins || chance(25)) {
                text.append(chance(15) ? "\n" : chance(15) ? "  " : " ");
            }
            text.append(token);
        }
        if (chance(10)) {
            text.append(' ');
        }
        return text.toString();
    }

    private static boolean bothIn(String set, StringBuilder text, String token) {
        return ("" + text.charAt(text.length() - 1)).matches(set) && token.substring(0, 1).matches(set);
    }
}
