import java.nio.charset.StandardCharsets;
import java.util.NoSuchElementException;

/** What the tests share: counting wrong answers, and putting a text on a bus's tape. */
final class Check {
    /** The bus of most tests: three switches, four ends, three links, of which the first is heard by three ends. */
    static final String THREE = "bus switches 3 room 4 jitter 16 window 5 skew 100;"
            + "end a at 0; end b at 1; end c at 2; end d at 0;"
            + "link x from a gap 16 length 4 to b c d;"
            + "link y from c gap 32 length 8 to a;"
            + "link z from b gap 64 length 3 to c a";

    private final String test;
    private int calls = 0;
    private int wrong = 0;

    Check(String test) {
        this.test = test;
    }

    void due(String call, long want, long got) {
        calls++;
        if (want != got) {
            wrong++;
            System.out.println(test + ": " + call + " answered " + got + ", due is " + want);
        }
    }

    void due(String call, boolean want, boolean got) {
        due(call, want ? 1 : 0, got ? 1 : 0);
    }

    /** A call just made that may be refused answered so, with this trouble. */
    void due(GapLinks x, String call, long want, long got, int trouble) {
        due(call, want, got);
        due("trouble() behind " + call, trouble, x.trouble());
    }

    void refused(GapLinks x, String call, long got, int trouble) {
        due(x, call, -1, got, trouble);
    }

    void noSilent(GapLinks x, int i) {
        int thrown = 0;
        try {
            x.silent(i);
        } catch (NoSuchElementException e) {
            thrown = 1;
        }
        due("silent(" + i + ") throws", 1, thrown);
    }

    void finish() {
        System.out.println(test + ": " + calls + " answers looked at, " + wrong + " wrong");
        if (wrong != 0) {
            System.exit(1);
        }
    }

    /** Puts a text behind the tape, filled up with blanks to a multiple of twenty bytes. */
    static int feed(GapLinks x, String text) {
        int fed = 0;
        for (int k = 0; k < text.length(); k += 20) {
            String twenty = (text + " ".repeat(20)).substring(k, k + 20);
            fed = x.feed(four(twenty, 0), four(twenty, 4), four(twenty, 8), four(twenty, 12), four(twenty, 16));
        }
        return fed;
    }

    static int four(String text, int k) {
        byte[] bytes = text.getBytes(StandardCharsets.ISO_8859_1);
        return (bytes[k] & 255) << 24 | (bytes[k + 1] & 255) << 16 | (bytes[k + 2] & 255) << 8 | bytes[k + 3] & 255;
    }

    static int read(GapLinks x, String text) {
        feed(x, text);
        return x.bus(text.length());
    }

    static GapLinks bus(String text) {
        GapLinks x = new GapLinks();
        if (read(x, text) < 1) {
            throw new IllegalStateException("fault " + x.fault() + " at " + x.where() + " in " + text);
        }
        return x;
    }

    static long name(String name) {
        String eight = (name + "        ").substring(0, 8);
        return (long) four(eight, 0) << 32 | four(eight, 4) & 0xffffffffL;
    }
}
