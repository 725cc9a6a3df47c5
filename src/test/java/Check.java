import java.nio.charset.StandardCharsets;
import java.util.NoSuchElementException;

/** What the tests share: counting wrong answers, and putting a text on a bus's tape. */
final class Check {
    /** The bus of most tests: three switches, four ends, three links, of which the first is heard by three ends. */
    static final String THREE = "bus switches 3 room 4 jitter 16 window 5 skew 100;"
            + "end a at 0; end b at 1; end c at 2; end d at 0;"
            + "link x from a gap 16 length 4 to b c d;"
            + "link y from c gap 32 length 8 to a;"
            + "link z from b gap 64 length 3 to c a";

    private final String test;
    private String subject = "";
    private int calls = 0;
    private int wrong = 0;

    Check(String test) {
        this.test = test;
    }

    /** What the answers looked at from now on are about; told with each wrong one. */
    void about(String what) {
        subject = what + ": ";
    }

    int calls() {
        return calls;
    }

    void due(String call, long want, long got) {
        calls++;
        if (want != got) {
            wrong++;
            System.out.println(test + ": " + subject + call + " answered " + got + ", due is " + want);
        }
    }

    void due(String call, boolean want, boolean got) {
        due(call, want ? 1 : 0, got ? 1 : 0);
    }

    /** A call just made that may be refused answered so, with this trouble. */
    void due(GapLinks x, String call, long want, long got, int trouble) {
        due(call, want, got);
        due("trouble() behind " + call, trouble, x.trouble());
    }

    void refused(GapLinks x, String call, long got, int trouble) {
        due(x, call, -1, got, trouble);
    }

    /** The text is that of a bus with so many links. */
    GapLinks fine(String text, int links) {
        GapLinks x = new GapLinks();
        due(x, text, links, read(x, text), 0);
        due(text + ": fault()", 0, x.fault());
        due(text + ": where()", -1, x.where());
        return x;
    }

    /** The text has this fault, at the place of the sign @ in it, which is no part of it. */
    void fault(int sort, String marked) {
        int place = marked.indexOf('@');
        String text = marked.substring(0, place) + marked.substring(place + 1);
        GapLinks x = new GapLinks();
        refused(x, text, read(x, text), 4);
        due(text + ": fault()", sort, x.fault());
        due(text + ": where()", place, x.where());
        due(text + ": size(0)", 0, x.size(0));
    }

    void noSilent(GapLinks x, int i) {
        int thrown = 0;
        try {
            x.silent(i);
        } catch (NoSuchElementException e) {
            thrown = 1;
        }
        due("silent(" + i + ") throws", 1, thrown);
    }

    void finish() {
        System.out.println(test + ": " + calls + " answers looked at, " + wrong + " wrong");
        if (wrong != 0) {
            System.exit(1);
        }
    }

    /** Puts a text behind the tape, filled up with blanks to a multiple of twenty bytes. */
    static int feed(GapLinks x, String text) {
        int fed = 0;
        for (int k = 0; k < text.length(); k += 20) {
            String twenty = (text + " ".repeat(20)).substring(k, k + 20);
            fed = x.feed(four(twenty, 0), four(twenty, 4), four(twenty, 8), four(twenty, 12), four(twenty, 16));
        }
        return fed;
    }

    static int four(String text, int k) {
        byte[] bytes = text.getBytes(StandardCharsets.ISO_8859_1);
        return (bytes[k] & 255) << 24 | (bytes[k + 1] & 255) << 16 | (bytes[k + 2] & 255) << 8 | bytes[k + 3] & 255;
    }

    static int read(GapLinks x, String text) {
        feed(x, text);
        return x.bus(text.length());
    }

    static GapLinks bus(String text) {
        GapLinks x = new GapLinks();
        if (read(x, text) < 1) {
            throw new IllegalStateException("fault " + x.fault() + " at " + x.where() + " in " + text);
        }
        return x;
    }

    static long name(String name) {
        String eight = (name + "        ").substring(0, 8);
        return (long) four(eight, 0) << 32 | four(eight, 4) & 0xffffffffL;
    }
}
