import java.util.ArrayList;
import java.util.Collections;
import java.util.List;
import java.util.Random;

/** Texts of buses drawn at random, and such texts spoilt. */
final class RandomText {
    private static final int[] GAPS = {8, 16, 32, 64, 128, 256};
    private static final String[] NAMES = {"a", "b", "c", "d", "e", "f", "x", "y", "z", "at", "to", "from", "gap",
        "switches", "abcdefgh", "lin", "busx", "length", "u", "v", "w"};

    private RandomText() {
    }

    static String name(Random random) {
        return NAMES[random.nextInt(NAMES.length)];
    }

    static String text(Random random) {
        List<String> names = new ArrayList<>(List.of(NAMES));
        Collections.shuffle(names, random);
        int switches = 1 + random.nextInt(3);
        int ends = 2 + random.nextInt(5);
        int links = 1 + random.nextInt(random.nextInt(3) == 0 ? 8 : 4);
        boolean light = random.nextInt(3) != 0;
        StringBuilder text = new StringBuilder("bus switches " + switches + " room " + (1 + random.nextInt(12))
                + " jitter " + (random.nextBoolean() ? random.nextInt(401) : random.nextInt(30))
                + " window " + (random.nextBoolean() ? 1 + random.nextInt(100) : 1 + random.nextInt(4))
                + " skew " + (random.nextBoolean() ? 1 + random.nextInt(999) : 1 + random.nextInt(40)));
        // some ends may be told behind links of those told ahead of them
        int early = random.nextInt(3) == 0 ? 2 + random.nextInt(ends - 1) : ends;
        int linksOfEarly = early == ends ? links : random.nextInt(links + 1);
        addEnds(random, text, names.subList(0, early), switches);
        addLinks(random, text, names.subList(0, early), names.subList(ends, ends + linksOfEarly), light);
        addEnds(random, text, names.subList(early, ends), switches);
        addLinks(random, text, names.subList(0, ends), names.subList(ends + linksOfEarly, ends + links), light);
        return text + gapOrNone(random);
    }

    private static void addEnds(Random random, StringBuilder text, List<String> names, int switches) {
        for (String name : names) {
            text.append(gapOrNone(random) + ";" + gapOrNone(random) + "end " + name + " at " + random.nextInt(switches));
        }
    }

    private static void addLinks(Random random, StringBuilder text, List<String> ends, List<String> names, boolean light) {
        for (String name : names) {
            int gap = GAPS[light ? 1 + random.nextInt(5) : random.nextInt(6)];
            int most = Math.min(40, light ? Math.max(1, gap / 6) : gap);
            List<String> to = new ArrayList<>(ends);
            Collections.shuffle(to, random);
            text.append(";link " + name + " from " + to.get(0) + " gap " + gap + " length "
                    + (1 + random.nextInt(most)) + " to");
            int receivers = 1 + random.nextInt(Math.min(3, ends.size() - 1));
            for (int i = 1; i <= receivers; i++) {
                text.append(" " + to.get(i));
            }
        }
    }

    private static String gapOrNone(Random random) {
        return " ".repeat(random.nextInt(8) == 0 ? random.nextInt(3) : 0);
    }

    /** Some tokens are left out, doubled, put in or changed, or a byte is. */
    static String spoil(Random random, String text) {
        String spoilt = text;
        int times = 1 + random.nextInt(2);
        for (int k = 0; k < times; k++) {
            spoilt = spoilOnce(random, spoilt);
        }
        return spoilt;
    }

    private static String spoilOnce(Random random, String text) {
        int at = random.nextInt(text.length() + 1);
        String[] words = text.replace(";", " ; ").trim().split(" +");
        int w = random.nextInt(words.length);
        switch (random.nextInt(9)) {
            case 0: return text.substring(0, at);
            case 1: return text.substring(0, at) + (char) random.nextInt(256) + text.substring(at);
            case 2: return text.substring(0, at) + ";" + text.substring(at);
            case 3: words[w] = name(random); break;
            case 4: words[w] = "" + random.nextInt(random.nextBoolean() ? 10 : 1100); break;
            case 5: words[w] = words[w] + " " + words[random.nextInt(words.length)]; break;
            case 6: words[w] = ""; break;
            case 7: words[w] = words[w] + words[w]; break;
            default: return moreLines(random, text);
        }
        return String.join(" ", words).replace(" ; ", ";");
    }

    private static String moreLines(Random random, String text) {
        String[] lines = text.split(";");
        StringBuilder more = new StringBuilder(text);
        int times = 1 + random.nextInt(4);
        for (int k = 0; k < times; k++) {
            String line = lines[random.nextInt(lines.length)];
            more.append(";" + (random.nextBoolean() ? line : line.replaceAll("(end|link) +[a-z]+", "$1 q" + (char) ('a' + k))));
        }
        return more.toString();
    }
}
