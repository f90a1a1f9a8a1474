import java.util.Random;

/** Texts of cellars, evenings and laws, right and wrong ones, and how they are fed. */
final class Told {
    private static final String[] NAMES = {"ann", "ben", "vic", "tom", "ida", "pol", "sam", "wrong", "turns", "met",
        "a", "b", "c", "eightlet", "z", "persona", "ringx"};
    private static final String[] KINDS = {"plain", "plain", "plain", "plain", "ill", "shy", "cat"};
    private static final String[] BITS = {"person", "new", "price", "ring", "been", "bar", "often", "costs", "turn",
        "round", "fetch", "plain", "ill", "shy", "cat", "not", "and", "or", "wrong", "turns", "met", "ann", "ben",
        "(", ")", "<", "=", "+", "-", "*", ";", "0", "1", "9", "10", "999", "1000", "9999", "12345", "?", "A", "_",
        "ninelette", "eightlet", ",", "\n", "~"};

    static final String TWO = "person a plain; person b plain;";
    static final String THREE = TWO + "person c plain;";
    static final String FOUR = THREE + "person d plain;";
    static final String SIX = FOUR + "person e plain; person f plain;";

    private Told() {
    }

    static long[] packed(String text) {
        long[] longs = new long[(text.length() + 7) / 8];
        for (int i = 0; i < text.length(); i++) {
            longs[i / 8] |= (long) (text.charAt(i) & 255) << 56 - 8 * (i % 8);
        }
        return longs;
    }

    static void feed(CellarTurns x, String text) {
        long[] longs = packed(text);
        for (int i = 0; i < longs.length; i += 3) {
            x.feed(longs[i], i + 1 < longs.length ? longs[i + 1] : 0, i + 2 < longs.length ? longs[i + 2] : 0);
        }
    }

    static CellarTurns cellar(String text) {
        CellarTurns x = new CellarTurns();
        feed(x, text);
        int fault = x.cellar();
        if (fault != 0) {
            throw new IllegalStateException("fault " + fault + " in " + text);
        }
        return x;
    }

    /** All eight BODIES are there, and what that cost is nothing. */
    static CellarTurns eightThere(String more) {
        CellarTurns x = cellar(SIX + "new g price 0; new h price 0;" + more);
        x.fetch(6);
        x.fetch(7);
        return x;
    }

    /** All that can be told of the state by some fifty calls. */
    static String state(CellarTurns x) {
        StringBuilder s = new StringBuilder();
        for (int what = 0; what <= 12; what++) {
            s.append(x.count(what)).append(what < 12 ? ',' : ';');
        }
        int bodies = x.count(0);
        for (int body = 0; body < bodies; body++) {
            s.append(' ').append(x.body(body, 3)).append('.').append(x.body(body, 4)).append('.');
            s.append(x.body(body, 5)).append('.').append(x.met(body));
        }
        return s.toString();
    }

    static String randomCellar(Random r) {
        StringBuilder s = new StringBuilder();
        int people = 1 + r.nextInt(6);
        int fresh = r.nextInt(3);
        String[] names = new String[people];
        int shift = r.nextInt(NAMES.length);
        int told = 0;
        int next = shift;
        while (told < people || fresh > 0) {
            String name = NAMES[next++ % NAMES.length];
            if (told < people && (fresh == 0 || r.nextInt(3) > 0)) {
                names[told++] = name;
                s.append("person ").append(name).append(' ').append(KINDS[r.nextInt(KINDS.length)]).append(" ;\n");
            } else {
                fresh--;
                s.append("new ").append(name).append(" price ").append(r.nextInt(4) * 10).append("; ");
            }
        }
        addRings(r, s, names);
        boolean[] been = new boolean[64];
        boolean[] bars = new boolean[64];
        for (int i = r.nextInt(5); i > 0 && people > 1; i--) {
            addPair(r, s, "been ", names, been);
        }
        for (int i = r.nextInt(3); i > 0 && people > 1; i--) {
            addPair(r, s, "bar ", names, bars);
        }
        if (r.nextBoolean()) {
            s.append("often ").append(1 + r.nextInt(5)).append(";");
        }
        if (r.nextInt(3) > 0) {
            s.append("costs ").append(randomLaw(r, 0)).append(";");
        }
        return s.toString();
    }

    private static void addRings(Random r, StringBuilder s, String[] names) {
        Integer[] order = new Integer[names.length];
        for (int i = 0; i < order.length; i++) {
            order[i] = i;
        }
        java.util.Collections.shuffle(java.util.Arrays.asList(order), r);
        int at = 0;
        while (names.length - at >= 2 && r.nextInt(5) > 0) {
            int size = 2 + r.nextInt(names.length - at - 1);
            s.append("ring");
            for (int i = 0; i < size; i++) {
                s.append(' ').append(names[order[at++]]);
            }
            s.append(';');
        }
    }

    private static void addPair(Random r, StringBuilder s, String word, String[] names, boolean[] had) {
        int one = r.nextInt(names.length);
        int other = r.nextInt(names.length);
        if (one != other && !had[8 * one + other]) {
            had[8 * one + other] = true;
            had[8 * other + one] = true;
            s.append(word).append(names[one]).append(' ').append(names[other]).append(";");
        }
    }

    static String randomLaw(Random r, int depth) {
        StringBuilder s = new StringBuilder();
        int parts = 1 + r.nextInt(4);
        boolean compared = false;
        for (int i = 0; i < parts; i++) {
            if (i > 0) {
                int kind = r.nextInt(compared ? 5 : 7);
                if (kind < 2) {
                    compared = false;
                }
                if (kind >= 5) {
                    compared = true;
                }
                s.append(new String[] {" and ", " or ", "+", " - ", "*", "<", "= "}[kind]);
            }
            s.append(randomPart(r, depth));
        }
        return s.toString();
    }

    private static String randomPart(Random r, int depth) {
        switch (r.nextInt(depth >= 4 ? 4 : 6)) {
            case 0: return "wrong";
            case 1: return "turns";
            case 2: return "met";
            case 3: return Integer.toString(r.nextInt(r.nextInt(4) == 0 ? 10000 : 12));
            case 4: return "not " + randomPart(r, depth + 1);
            default: return "(" + randomLaw(r, depth + 1) + ")";
        }
    }

    static String randomEvening(Random r, String cellar) {
        StringBuilder s = new StringBuilder();
        java.util.List<String> names = new java.util.ArrayList<>();
        java.util.regex.Matcher m = java.util.regex.Pattern.compile("(person|new) ([a-z]+)").matcher(cellar);
        java.util.List<String> fresh = new java.util.ArrayList<>();
        while (m.find()) {
            names.add(m.group(2));
            if (m.group(1).equals("new")) {
                fresh.add(m.group(2));
            }
        }
        int lines = r.nextInt(10) == 0 ? 29 + r.nextInt(4) : r.nextInt(12);
        for (int i = 0; i < lines; i++) {
            java.util.Collections.shuffle(names, r);
            int kind = r.nextInt(6);
            if (kind == 0 && !fresh.isEmpty()) {
                s.append("fetch ").append(fresh.get(r.nextInt(fresh.size()))).append(" ;");
            } else if (kind == 1 && names.size() > 2) {
                s.append("round ").append(names.get(0)).append(' ').append(names.get(1)).append(' ')
                        .append(names.get(2)).append(";");
            } else if (names.size() > 1) {
                s.append("turn ").append(names.get(0)).append(' ').append(names.get(1)).append(";");
            }
        }
        return s.toString();
    }

    /** A text with something put in, left out or put in another's place. */
    static String spoilt(Random r, String text) {
        if (text.isEmpty()) {
            return BITS[r.nextInt(BITS.length)];
        }
        String bit = BITS[r.nextInt(BITS.length)];
        int at = r.nextInt(text.length() + 1);
        switch (r.nextInt(5)) {
            case 0: return text.substring(0, at);
            case 1: return text.substring(0, at) + text.substring(Math.min(text.length(), at + 1 + r.nextInt(6)));
            case 2: return text.substring(0, at) + " " + bit + " " + text.substring(at);
            case 3: return text.substring(0, at) + bit + text.substring(at);
            default: {
                String[] words = text.split("(?<=[ ;\\n])");
                int k = r.nextInt(words.length);
                int l = r.nextInt(words.length);
                words[k] = r.nextBoolean() ? words[l] : bit + " ";
                return String.join("", words);
            }
        }
    }
}
