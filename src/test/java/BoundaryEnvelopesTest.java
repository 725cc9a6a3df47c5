import java.util.function.Function;

/** Boundary cases of promises 21 to 28, envelopes (III): each sentence has a test of its own. */
final class BoundaryEnvelopesTest {
    private static final String HEAD = "bus switches 1 room 12 jitter 0 window 1 skew 999;end a at 0;end b at 0;end c at 0";
    /** The port to c bears just 1. */
    private static final String JUST_ONE = HEAD + ";link k from a gap 8 length 4 to c;link m from b gap 16 length 8 to c";
    /** The port to c bears 257/256, and no other is above 1. */
    private static final String ABOVE = HEAD + ";link k from a gap 8 length 8 to c;link m from b gap 256 length 1 to c";
    /** Three switches, the longest way and the shortest; end d has no link. */
    private static final String LONG = "bus switches 3 room 12 jitter 1 window 1 skew 999;end a at 0;end b at 2;end c at 0;"
            + "end d at 1;link k from a gap 256 length 1 to b c";

    public static void main(String[] args) throws IllegalAccessException {
        Boundaries.run(BoundaryEnvelopesTest.class);
    }

    private static void fraction(Check check, GapLinks x, String call, long upper, long lower, long... got) {
        check.due(x, call, upper, got[0], 0);
        check.due(call + ", lower", lower, got[1]);
    }

    private static void load(Check check, GapLinks x, int p, long upper, long lower) {
        fraction(check, x, "load(" + p + ")", upper, lower, x.load(p, false), x.load(p, true));
    }

    private static void delay(Check check, GapLinks x, int p, long upper, long lower) {
        fraction(check, x, "delay(" + p + ")", upper, lower, x.delay(p, false), x.delay(p, true));
    }

    private static void burst(Check check, GapLinks x, int i, int k, long upper, long lower) {
        fraction(check, x, "burst(0, " + i + ", " + k + ")", upper, lower, x.burst(0, i, k, false), x.burst(0, i, k, true));
    }

    private static void bound(Check check, GapLinks x, int i, long upper, long lower) {
        fraction(check, x, "bound(0, " + i + ")", upper, lower, x.bound(0, i, false), x.bound(0, i, true));
    }

    /** A call of a port is refused by 1 with every port that is not there. */
    private static void noSuchPort(Check check, String call, Function<GapLinks, Boundaries.Asked> asked) {
        GapLinks x = Check.bus(LONG);
        Boundaries.refused(check, x, call, 1, asked.apply(x), Boundaries.outside(0, 15));
        Boundaries.refused(check, x, call + " of no END", 1, asked.apply(x), 4, 5, 10, 11);
        GapLinks two = Check.bus(LONG.replace("switches 3", "switches 2").replace("at 2", "at 1"));
        Boundaries.refused(check, two, call + " of two SWITCHES", 1, asked.apply(two), 13, 15);
        GapLinks one = Check.bus(HEAD + ";link k from a gap 8 length 1 to b");
        Boundaries.refused(check, one, call + " of one SWITCH", 1, asked.apply(one), 3, 9, 12, 13, 14, 15);
        GapLinks none = new GapLinks();
        Boundaries.refused(check, none, call + " without a bus", 1, asked.apply(none), 0, 6, 12, 14);
        for (int p : new int[] {0, 3, 6, 9, 12, 13, 14, 15}) {
            check.due(x, call + " with " + p + " is there", 1, asked.apply(x).of(p) >= 0 ? 1 : 0, 0);
        }
    }

    // ---- promise 21

    @Sentence(promise = 21, says = "LOAD of a PORT. -1: 1 (no such PORT).")
    static void promise21_portsThatAreNotThere(Check check) {
        noSuchPort(check, "load(p)", x -> p -> x.load(p, false));
        noSuchPort(check, "load(p), lower", x -> p -> x.load(p, true));
    }

    @Sentence(promise = 21, says = "Fractions are told in lowest terms, the upper WHOLE or the lower.")
    static void promise21_noneAPartOneAndAboveOneInLowestTerms(Check check) {
        GapLinks x = Check.bus(JUST_ONE);
        load(check, x, 2, 0, 1);
        load(check, x, 6, 0, 1);
        load(check, x, 0, 1, 2);
        load(check, x, 1, 1, 2);
        load(check, x, 8, 1, 1);
        load(check, Check.bus(ABOVE), 8, 257, 256);
        load(check, Check.bus(HEAD + ";link k from a gap 256 length 1 to b"), 0, 1, 256);
        load(check, Check.bus(HEAD + ";link k from a gap 64 length 40 to b"), 0, 5, 8);
        load(check, Check.bus(HEAD + ";link k from a gap 8 length 8 to b;link m from a gap 8 length 8 to c"), 0, 2, 1);
        StringBuilder eight = new StringBuilder(HEAD);
        for (char name = 'p'; name < 'x'; name++) {
            eight.append(";link " + name + " from a gap 8 length 8 to b");
        }
        load(check, Check.bus(eight.toString()), 0, 8, 1);
    }

    // ---- promise 22

    @Sentence(promise = 22, says = "DELAY of a PORT (0 without LINKS).")
    static void promise22_noDelayWithoutLinks(Check check) {
        GapLinks x = Check.bus(LONG);
        for (int p : new int[] {1, 2, 3, 6, 9, 14, 15}) {
            delay(check, x, p, 0, 1);
        }
        delay(check, x, 0, 1, 1);
        delay(check, x, 12, 257, 256);
    }

    @Sentence(promise = 22, says = "of an END's: LENGTHS of all its LINKS together; of others: BURSTS there of all LINKS that go"
            + " through it, together")
    static void promise22_fromTheFirstToTheLastPort(Check check) {
        // six ends, each sends to the next; jitter 64 by gap 64: a burst is twice the length
        StringBuilder text = new StringBuilder("bus switches 1 room 1 jitter 64 window 1 skew 1");
        for (int e = 0; e < 6; e++) {
            text.append(";end " + (char) ('a' + e) + " at 0");
        }
        for (int e = 0; e < 6; e++) {
            text.append(";link " + (char) ('p' + e) + " from " + (char) ('a' + e) + " gap 64 length " + (e + 1) + " to "
                    + (char) ('a' + (e + 1) % 6));
        }
        text.append(";link v from f gap 64 length 7 to e;link w from f gap 64 length 8 to e");
        GapLinks x = Check.bus(text.toString());
        int[] lengths = {1, 2, 3, 4, 5, 21};
        int[] bursts = {12, 2, 4, 6, 8 + 14 + 16, 10};
        for (int e = 0; e < 6; e++) {
            delay(check, x, e, lengths[e], 1);
            delay(check, x, 6 + e, bursts[e], 1);
        }
        // three switches, a way to the right and one to the left: 4 and 8, then half as much again of each
        GapLinks y = Check.bus("bus switches 3 room 1 jitter 8 window 1 skew 1;end a at 0;end b at 2;end c at 0;end d at 2;"
                + "link k from a gap 8 length 2 to b;link m from d gap 16 length 8 to c");
        delay(check, y, 12, 4, 1);
        delay(check, y, 13, 5, 1);
        delay(check, y, 7, 25, 4);
        delay(check, y, 15, 12, 1);
        delay(check, y, 14, 18, 1);
        delay(check, y, 8, 27, 1);
    }

    @Sentence(promise = 22, says = "-1: 1; 5 (some LOAD is above 1).")
    static void promise22_refusedBy1ThenBy5IfALoadIsAboveOne(Check check) {
        noSuchPort(check, "delay(p)", x -> p -> x.delay(p, false));
        GapLinks just = Check.bus(JUST_ONE);
        delay(check, just, 8, 12, 1);
        GapLinks above = Check.bus(ABOVE);
        Boundaries.refused(check, above, "delay(p), some LOAD is above 1", 5, p -> above.delay(p, false), 0, 1, 2, 6, 7, 8);
        Boundaries.refused(check, above, "delay(p), lower", 5, p -> above.delay(p, true), 0, 8);
        Boundaries.refused(check, above, "delay(p) of no such port", 1, p -> above.delay(p, false), -1, 3, 9, 12, 16);
        Check.read(above, JUST_ONE);
        delay(check, above, 8, 12, 1);
    }

    @Sentence(promise = 22, says = "DELAY of it, if no PORT's LOAD is above 1")
    static void promise22_aLoadAboveOneOfAnySortOfPort(Check check) {
        String head = "bus switches 2 room 12 jitter 0 window 1 skew 1;end a at 0;end b at 1;end c at 0;end d at 1;"
                + "link k from a gap 8 length 8 to b";
        String[] other = {";link m from a gap 256 length 1 to c", ";link m from c gap 256 length 1 to d",
            ";link m from d gap 256 length 1 to b"};
        int[] port = {0, 12, 7};
        for (int n = 0; n < 3; n++) {
            GapLinks x = Check.bus(head + other[n]);
            check.due("the port", port[n], x.fullest());
            load(check, x, port[n], 257, 256);
            check.refused(x, "delay(3)", x.delay(3, false), 5);
        }
        GapLinks left = Check.bus("bus switches 2 room 12 jitter 0 window 1 skew 1;end a at 1;end b at 0;end c at 1;"
                + "end d at 0;link k from a gap 8 length 8 to b;link m from c gap 256 length 1 to d");
        check.due("the port", 14, left.fullest());
        check.refused(left, "delay(3)", left.delay(3, false), 5);
        GapLinks x = Check.bus(head);
        check.due(x, "delay(0), LOAD is just 1", 8, x.delay(0, false), 0);
    }

    // ---- promise 23

    @Sentence(promise = 23, says = "BURST of a LINK at the k-th PORT (from 1 on) on the way to its i-th RECEIVER. -1: 1 (k, too)"
            + "; 5.")
    static void promise23_fromTheFirstToTheLastPortBehindItsEnd(Check check) {
        GapLinks x = Check.bus(LONG);
        burst(check, x, 0, 1, 257, 256);
        burst(check, x, 0, 3, 257L * 257 * 257, 16777216);
        burst(check, x, 1, 1, 257, 256);
        for (boolean lower : new boolean[] {false, true}) {
            Boundaries.refused(check, x, "burst(0, 0, k)", 1, k -> x.burst(0, 0, k, lower), Boundaries.outside(1, 3));
            Boundaries.refused(check, x, "burst(0, 1, k)", 1, k -> x.burst(0, 1, k, lower), Boundaries.outside(1, 1));
            Boundaries.refused(check, x, "burst(0, i, 1)", 1, i -> x.burst(0, i, 1, lower), Boundaries.outside(0, 1));
            Boundaries.refused(check, x, "burst(l, 0, 1)", 1, l -> x.burst(l, 0, 1, lower), Boundaries.outside(0, 0));
        }
        GapLinks none = new GapLinks();
        check.refused(none, "burst(0, 0, 1) without a bus", none.burst(0, 0, 1, false), 1);
        GapLinks above = Check.bus(ABOVE);
        check.refused(above, "burst(0, 0, 1), some LOAD is above 1", above.burst(0, 0, 1, false), 5);
        check.refused(above, "burst(0, 0, 0), 1 goes ahead of 5", above.burst(0, 0, 0, false), 1);
        check.refused(above, "burst(0, 0, 2), 1 goes ahead of 5", above.burst(0, 0, 2, false), 1);
        GapLinks just = Check.bus(JUST_ONE);
        check.due(just, "burst(0, 0, 1), LOAD is just 1", 4, just.burst(0, 0, 1, false), 0);
    }

    @Sentence(promise = 23, says = "LENGTH and LENGTH times JITTER by GAP")
    static void promise23_noJitterAndTheGreatest(Check check) {
        String text = "bus switches 1 room 1 jitter 0 window 1 skew 1;end a at 0;end b at 0;"
                + "link k from a gap 8 length 8 to b";
        burst(check, Check.bus(text), 0, 1, 8, 1);
        burst(check, Check.bus(text.replace("jitter 0", "jitter 400")), 0, 1, 408, 1);
        burst(check, Check.bus(text.replace("jitter 0", "jitter 1").replace("length 8", "length 1")), 0, 1, 9, 8);
        String wide = text.replace("gap 8 length 8", "gap 256 length 40");
        burst(check, Check.bus(wide), 0, 1, 40, 1);
        burst(check, Check.bus(wide.replace("jitter 0", "jitter 400")), 0, 1, 205, 2);
    }

    @Sentence(promise = 23, says = "at each further one: BURST at the one ahead, and LENGTH by GAP times DELAY of that")
    static void promise23_theDeepestFractionIsExact(Check check) {
        GapLinks x = Check.bus(LONG);
        burst(check, x, 0, 2, 257 * 257, 65536);
        burst(check, x, 0, 3, 257L * 257 * 257, 16777216);
        GapLinks great = Check.bus(LONG.replace("jitter 1", "jitter 400").replace("gap 256 length 1", "gap 8 length 8"));
        burst(check, great, 0, 1, 408, 1);
        burst(check, great, 0, 2, 816, 1);
        burst(check, great, 0, 3, 1632, 1);
    }

    // ---- promise 24

    @Sentence(promise = 24, says = "BOUND. -1: 1; 5.")
    static void promise24_noSuchReceiverThenALoadAboveOne(Check check) {
        GapLinks x = Check.bus(LONG);
        bound(check, x, 1, 513, 256);
        for (boolean lower : new boolean[] {false, true}) {
            Boundaries.refused(check, x, "bound(0, i)", 1, i -> x.bound(0, i, lower), Boundaries.outside(0, 1));
            Boundaries.refused(check, x, "bound(l, 0)", 1, l -> x.bound(l, 0, lower), Boundaries.outside(0, 0));
        }
        GapLinks none = new GapLinks();
        check.refused(none, "bound(0, 0) without a bus", none.bound(0, 0, false), 1);
        GapLinks above = Check.bus(ABOVE);
        check.refused(above, "bound(0, 0), some LOAD is above 1", above.bound(0, 0, false), 5);
        check.refused(above, "bound(1, 0), lower", above.bound(1, 0, true), 5);
        check.refused(above, "bound(2, 0), 1 goes ahead of 5", above.bound(2, 0, false), 1);
        check.refused(above, "bound(0, 1), 1 goes ahead of 5", above.bound(0, 1, false), 1);
        GapLinks just = Check.bus(JUST_ONE);
        bound(check, just, 0, 16, 1);
    }

    @Sentence(promise = 24, says = "BOUND for a RECEIVER: DELAYS of all PORTS on the way, together.")
    static void promise24_theShortestAndTheLongestWay(Check check) {
        GapLinks x = Check.bus(LONG);
        bound(check, x, 0, 16777216L + 257 * 65536 + 257 * 257 * 256 + 257 * 257 * 257, 16777216);
        bound(check, x, 1, 513, 256);
        GapLinks least = Check.bus(Boundaries.least());
        bound(check, least, 0, 2, 1);
    }

    @Sentence(promise = 24, says = "(No FRAME of a LINK whose END never babbled is TAKEN later than that.)")
    static void promise24_aFrameAsLateAsItsBound(Check check) {
        // both are at the switch at 9; m's goes by port 8 behind k's
        GapLinks x = Check.bus(HEAD + ";link k from a gap 16 length 8 to c;link m from b gap 16 length 8 to c");
        bound(check, x, 0, 24, 1);
        x.send(0, 1);
        x.send(1, 1);
        x.ticks(30);
        check.due("k is 16 late", 16, x.heard(0, 0, 6));
        check.due("m is 24 late", 24, x.heard(1, 0, 6));
        check.due(x, "bound(1, 0)", 24, x.bound(1, 0, false), 0);
        check.due(x, "keeps(1, 0)", 1, x.keeps(1, 0), 0);
    }

    // ---- promise 25

    @Sentence(promise = 25, says = "1 if the greatest LATE of a RECEIVER is no more than BOUND (or none was TAKEN), 0.")
    static void promise25_noneTakenJustAtTheBoundAndBeyondIt(Check check) {
        // BOUND: 2, and 2 and 2 * jitter / 8; a frame that babbles is 5 late
        int[] jitter = {0, 3, 4, 5};
        for (int n = 0; n < 4; n++) {
            GapLinks x = Check.bus(Boundaries.one(12, jitter[n], 1, 999, 8, 2));
            bound(check, x, 0, new long[] {4, 19, 5, 21}[n], new long[] {1, 4, 1, 4}[n]);
            check.due(x, "keeps(0, 0), none was TAKEN", 1, x.keeps(0, 0), 0);
            x.send(0, 1);
            x.ticks(20);
            check.due("4 late", 4, x.heard(0, 0, 6));
            check.due(x, "keeps(0, 0), 4 late, jitter " + jitter[n], 1, x.keeps(0, 0), 0);
            x.babble(0, 1);
            x.ticks(20);
            check.due("5 late", 5, x.heard(0, 0, 6));
            check.due(x, "keeps(0, 0), 5 late, jitter " + jitter[n], jitter[n] >= 4 ? 1 : 0, x.keeps(0, 0), 0);
        }
    }

    @Sentence(promise = 25, says = "NONE: 1; 5.")
    static void promise25_noSuchReceiverThenALoadAboveOne(Check check) {
        GapLinks x = Check.bus(LONG);
        check.due(x, "keeps(0, 1)", 1, x.keeps(0, 1), 0);
        Boundaries.refused(check, x, "keeps(0, i)", 1, i -> x.keeps(0, i), Boundaries.outside(0, 1));
        Boundaries.refused(check, x, "keeps(l, 0)", 1, l -> x.keeps(l, 0), Boundaries.outside(0, 0));
        GapLinks none = new GapLinks();
        check.refused(none, "keeps(0, 0) without a bus", none.keeps(0, 0), 1);
        GapLinks above = Check.bus(ABOVE);
        check.refused(above, "keeps(0, 0), some LOAD is above 1", above.keeps(0, 0), 5);
        check.refused(above, "keeps(2, 0), 1 goes ahead of 5", above.keeps(2, 0), 1);
        check.refused(above, "keeps(0, 1), 1 goes ahead of 5", above.keeps(0, 1), 1);
        GapLinks just = Check.bus(JUST_ONE);
        check.due(just, "keeps(0, 0), LOAD is just 1", 1, just.keeps(0, 0), 0);
    }

    // ---- promise 26

    @Sentence(promise = 26, says = "The PORT of the greatest LOAD, of several the first.")
    static void promise26_ofSeveralTheFirst(Check check) {
        GapLinks x = Check.bus(HEAD + ";link k from a gap 8 length 8 to b");
        check.due(x, "0 and 7 alike", 0, x.fullest(), 0);
        GapLinks y = Check.bus(HEAD + ";link k from a gap 8 length 4 to b;link m from c gap 8 length 4 to b a");
        check.due(y, "7 alone", 7, y.fullest(), 0);
        GapLinks z = Check.bus(HEAD + ";link k from c gap 8 length 4 to b;link m from b gap 8 length 4 to c");
        check.due(z, "1, 2, 7 and 8 alike", 1, z.fullest(), 0);
        GapLinks last = Check.bus("bus switches 3 room 1 jitter 0 window 1 skew 1;end a at 2;end b at 2;end c at 1;"
                + "end d at 1;link k from a gap 8 length 1 to c;link m from b gap 8 length 1 to d");
        check.due(last, "15, the last of all, alone", 15, last.fullest(), 0);
        GapLinks hair = Check.bus(HEAD + ";link k from a gap 8 length 8 to b;link m from c gap 256 length 1 to b");
        check.due(hair, "7 by 1/256", 7, hair.fullest(), 0);
    }

    @Sentence(promise = 26, says = "NONE: 1 (no BUS).")
    static void promise26_noBus(Check check) {
        GapLinks none = new GapLinks();
        check.refused(none, "fullest() without a bus", none.fullest(), 1);
        Check.read(none, "bus switches 9");
        check.refused(none, "fullest() behind a fault", none.fullest(), 1);
    }

    // ---- promise 27

    @Sentence(promise = 27, says = "The least GAP (8, 16, 32, 64, 128 or 256) for a LINK by which no LOAD is above 1, all others"
            + " as told")
    static void promise27_eachOfTheSixGapsJustBearsIt(Check check) {
        // beside others of 7/8, 15/16, .. 255/256 there is just room for a link of length 1 by one gap, and by none below
        String k = ";link k from a gap 256 length 1 to b";
        check.due("alone", 8, leastGap(k));
        check.due("1/8 beside 7/8", 8, leastGap(k + ";link m from a gap 8 length 7 to c"));
        check.due("1/16 beside 15/16", 16, leastGap(k + ";link m from a gap 16 length 15 to c"));
        check.due("1/32 beside 31/32", 32, leastGap(k + ";link m from a gap 32 length 31 to c"));
        check.due("1/64 beside 63/64", 64, leastGap(k + ";link m from a gap 32 length 31 to c;link n from a gap 64 length 1 to c"));
        check.due("1/128 beside 127/128", 128, leastGap(k + ";link m from a gap 32 length 31 to c;"
                + "link n from a gap 128 length 3 to c"));
        check.due("1/256 beside 255/256", 256, leastGap(k + ";link m from a gap 32 length 31 to c;"
                + "link n from a gap 256 length 7 to c"));
        check.due("its own GAP is of no account", 8, leastGap(k.replace("gap 256", "gap 8")));
    }

    private static int leastGap(String links) {
        return Check.bus(HEAD + links).leastGap(0);
    }

    @Sentence(promise = 27, says = "(LENGTH at least)")
    static void promise27_noGapBelowLength(Check check) {
        for (int length = 1; length <= 40; length++) {
            int due = length <= 8 ? 8 : length <= 16 ? 16 : length <= 32 ? 32 : 64;
            check.due("length " + length, due, leastGap(";link k from a gap 256 length " + length + " to b"));
        }
    }

    @Sentence(promise = 27, says = "-2 none. NONE: 1.")
    static void promise27_noneSuffices(Check check) {
        check.due("1/256 beside 1", -2, leastGap(";link k from a gap 256 length 1 to b;link m from a gap 8 length 8 to c"));
        check.due("another PORT's LOAD is above 1", -2, leastGap(";link k from a gap 256 length 1 to b;"
                + "link m from b gap 8 length 8 to c;link n from b gap 256 length 1 to a"));
        GapLinks x = Check.bus(GreatestTest.greatest());
        check.due(x, "leastGap(7)", 16, x.leastGap(7), 0);
        Boundaries.refused(check, x, "leastGap(l)", 1, x::leastGap, Boundaries.outside(0, 7));
        GapLinks none = new GapLinks();
        check.refused(none, "leastGap(0) without a bus", none.leastGap(0), 1);
    }

    // ---- promise 28

    @Sentence(promise = 28, says = "Links that go through a PORT, as bits. NONE: 1.")
    static void promise28_noneAllAndNoSuchPort(Check check) {
        noSuchPort(check, "through(p)", x -> x::through);
        StringBuilder eight = new StringBuilder(HEAD);
        for (char name = 'p'; name < 'x'; name++) {
            eight.append(";link " + name + " from a gap 256 length 1 to " + (name == 'w' ? "c" : "b"));
        }
        GapLinks x = Check.bus(eight.toString());
        check.due(x, "through(0), all eight", 255, x.through(0), 0);
        check.due(x, "through(7), all but the last", 127, x.through(7), 0);
        check.due(x, "through(8), the last", 128, x.through(8), 0);
        check.due(x, "through(1), none", 0, x.through(1), 0);
        check.due(x, "through(6), none", 0, x.through(6), 0);
    }
}
