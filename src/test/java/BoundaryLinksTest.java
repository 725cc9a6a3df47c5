/** Boundary cases of promises 6 to 11: each sentence has a test of its own. */
final class BoundaryLinksTest {
    public static void main(String[] args) throws IllegalAccessException {
        Boundaries.run(BoundaryLinksTest.class);
    }

    // ---- promise 6

    @Sentence(promise = 6, says = "0 SWITCHES, 1 ROOM, 2 JITTER, 3 WINDOW, 4 SKEW, 5 ENDS, 6 LINKS, 7 TIME.")
    static void promise6_theLeastAndTheGreatestBus(Check check) {
        int[] least = {1, 1, 0, 1, 1, 2, 1, 0};
        int[] greatest = {3, 12, 400, 100, 999, 6, 8, 0};
        GapLinks x = Check.bus(Boundaries.least());
        GapLinks y = Check.bus(GreatestTest.greatest());
        for (int what = 0; what < 8; what++) {
            check.due(x, "about(" + what + ") of the least", least[what], x.about(what), 0);
            check.due(y, "about(" + what + ") of the greatest", greatest[what], y.about(what), 0);
        }
    }

    @Sentence(promise = 6, says = "NONE: 1 (no BUS; another what)")
    static void promise6_noBusOrAnotherWhat(Check check) {
        GapLinks none = new GapLinks();
        Boundaries.refused(check, none, "about(what) without a bus", 1, none::about, -1, 0, 1, 2, 3, 4, 5, 6, 7, 8);
        GapLinks x = Check.bus(Boundaries.least());
        Boundaries.refused(check, x, "about(what)", 1, x::about, Boundaries.outside(0, 7));
        check.due(x, "about(7) behind a refusal", 0, x.about(7), 0);
    }

    @Sentence(promise = 6, says = "TIME is 1 more (0 at first)")
    static void promise6_timeIsZeroAtFirst(Check check) {
        GapLinks x = Check.bus(Boundaries.least());
        check.due("about(7)", 0, x.about(7));
        x.ticks(0);
        check.due("about(7) behind a refused ticks()", 0, x.about(7));
        x.ticks(1);
        check.due("about(7) behind one tick", 1, x.about(7));
        for (int k = 0; k < 490; k++) {
            x.ticks(600);
        }
        check.due("about(7) behind 294,001 ticks", 294001, x.about(7));
    }

    // ---- promise 7

    @Sentence(promise = 7, says = "The SWITCH of an END. NONE: 1.")
    static void promise7_theFirstAndTheLastEndAndNoneBeyond(Check check) {
        GapLinks x = Check.bus(GreatestTest.greatest());
        check.due(x, "at(0)", 0, x.at(0), 0);
        check.due(x, "at(3)", 2, x.at(3), 0);
        check.due(x, "at(5)", 0, x.at(5), 0);
        Boundaries.refused(check, x, "at(e)", 1, x::at, Boundaries.outside(0, 5));
        GapLinks two = Check.bus(Boundaries.least());
        check.due(two, "at(1) of two", 0, two.at(1), 0);
        Boundaries.refused(check, two, "at(e) of two", 1, two::at, Boundaries.outside(0, 1));
        GapLinks none = new GapLinks();
        check.refused(none, "at(0) without a bus", none.at(0), 1);
    }

    // ---- promise 8

    @Sentence(promise = 8, says = "Of a LINK 0 its END, 1 GAP, 2 LENGTH, 3 how many RECEIVERS. NONE: 1.")
    static void promise8_theFirstAndTheLastLinkAndNoneBeyond(Check check) {
        GapLinks x = Check.bus(GreatestTest.greatest());
        int[] first = {0, 256, 1, 3};
        int[] last = {1, 256, 8, 3};
        for (int what = 0; what < 4; what++) {
            int asked = what;
            check.due(x, "link(0, " + what + ")", first[what], x.link(0, what), 0);
            check.due(x, "link(7, " + what + ")", last[what], x.link(7, what), 0);
            Boundaries.refused(check, x, "link(l, " + what + ")", 1, l -> x.link(l, asked), Boundaries.outside(0, 7));
        }
        GapLinks one = Check.bus(Boundaries.least());
        check.due(one, "link(0, 3)", 1, one.link(0, 3), 0);
        check.refused(one, "link(1, 3)", one.link(1, 3), 1);
        GapLinks none = new GapLinks();
        check.refused(none, "link(0, 0) without a bus", none.link(0, 0), 1);
    }

    @Sentence(promise = 8, says = "1 (no such END, LINK, RECEIVER, what)")
    static void promise8_noSuchWhat(Check check) {
        GapLinks x = Check.bus(GreatestTest.greatest());
        Boundaries.refused(check, x, "link(0, what)", 1, what -> x.link(0, what), Boundaries.outside(0, 3));
    }

    // ---- promise 9

    @Sentence(promise = 9, says = "The i-th RECEIVER, as told. NONE: 1.")
    static void promise9_theFirstAndTheLastReceiverAndNoneBeyond(Check check) {
        GapLinks x = Check.bus("bus switches 1 room 1 jitter 0 window 1 skew 1;end a at 0;end b at 0;end c at 0;end d at 0;"
                + "link k from b gap 8 length 1 to d a c;link m from a gap 8 length 1 to c b;link n from d gap 8 length 1 to a");
        int[][] told = {{3, 0, 2}, {2, 1}, {0}};
        for (int l = 0; l < 3; l++) {
            int link = l;
            for (int i = 0; i < told[l].length; i++) {
                check.due(x, "receiver(" + l + ", " + i + ")", told[l][i], x.receiver(l, i), 0);
            }
            Boundaries.refused(check, x, "receiver(" + l + ", i)", 1, i -> x.receiver(link, i),
                    Boundaries.outside(0, told[l].length - 1));
        }
        Boundaries.refused(check, x, "receiver(l, 0)", 1, l -> x.receiver(l, 0), Boundaries.outside(0, 2));
        GapLinks none = new GapLinks();
        check.refused(none, "receiver(0, 0) without a bus", none.receiver(0, 0), 1);
    }

    // ---- promise 10

    @Sentence(promise = 10, says = "eight letters, the first highest, blanks (32) behind")
    static void promise10_namesOfOneToEightLetters(Check check) {
        GapLinks x = Check.bus("bus switches 1 room 1 jitter 0 window 1 skew 1;end zzzzzzzz at 0;end a at 0;"
                + "link az from a gap 8 length 1 to zzzzzzzz");
        check.due(x, "zzzzzzzz", 0, x.named(0x7a7a7a7a7a7a7a7aL), 0);
        check.due(x, "a and blanks", 1, x.named(0x6120202020202020L), 0);
        check.due(x, "az and blanks", 10, x.named(0x617a202020202020L), 0);
        check.refused(x, "a and zeros", x.named(0x6100000000000000L), 1);
        check.refused(x, "a, lowest", x.named(0x61L), 1);
        check.refused(x, "blanks and a", x.named(0x2020202020202061L), 1);
        check.refused(x, "the lowest first", x.named(0x2020202020207a61L), 1);
        check.refused(x, "a large letter", x.named(0x4120202020202020L), 1);
        check.refused(x, "seven of eight letters", x.named(0x7a7a7a7a7a7a7a20L), 1);
        check.refused(x, "a letter too many", x.named(0x617a612020202020L), 1);
    }

    @Sentence(promise = 10, says = "0 .. 5, or 10 and the LINK's. NONE: 1.")
    static void promise10_theFirstAndTheLastOfBothAndNoOther(Check check) {
        GapLinks x = Check.bus(GreatestTest.greatest());
        check.due(x, "the first END", 0, x.named(Check.name("a")), 0);
        check.due(x, "the last END", 5, x.named(Check.name("f")), 0);
        check.due(x, "the first LINK", 10, x.named(Check.name("p")), 0);
        check.due(x, "the last LINK", 17, x.named(Check.name("w")), 0);
        for (long other : new long[] {0, -1, 5, 17, Long.MIN_VALUE, Long.MAX_VALUE, Check.name(""), Check.name("g"),
            Check.name("bus"), Check.name("end"), Check.name("link"), Check.name("at"), Check.name("switches")}) {
            check.refused(x, "named(" + other + ")", x.named(other), 1);
        }
        Check.read(x, Boundaries.least());
        check.refused(x, "an END of the bus ahead of this", x.named(Check.name("f")), 1);
        check.refused(x, "a LINK of the bus ahead of this", x.named(Check.name("p")), 1);
        GapLinks none = new GapLinks();
        check.refused(none, "named(0) without a bus", none.named(0), 1);
        check.refused(none, "a without a bus", none.named(Check.name("a")), 1);
    }

    // ---- promise 11

    @Sentence(promise = 11, says = "The k-th PORT on the way to the i-th RECEIVER. NONE: 1 (k, too).")
    static void promise11_theShortestAndTheLongestWay(Check check) {
        GapLinks x = Check.bus("bus switches 3 room 1 jitter 0 window 1 skew 1;end a at 0;end b at 2;end c at 0;"
                + "link k from a gap 8 length 1 to c b;link m from b gap 8 length 1 to a");
        way(check, x, 0, 0, 0, 8);
        way(check, x, 0, 1, 0, 12, 13, 7);
        way(check, x, 1, 0, 1, 15, 14, 6);
        Boundaries.refused(check, x, "way(0, i, 0)", 1, i -> x.way(0, i, 0), Boundaries.outside(0, 1));
        Boundaries.refused(check, x, "way(1, i, 0)", 1, i -> x.way(1, i, 0), Boundaries.outside(0, 0));
        Boundaries.refused(check, x, "way(l, 0, 0)", 1, l -> x.way(l, 0, 0), Boundaries.outside(0, 1));
        GapLinks none = new GapLinks();
        check.refused(none, "way(0, 0, 0) without a bus", none.way(0, 0, 0), 1);
    }

    private static void way(Check check, GapLinks x, int l, int i, int... ports) {
        for (int k = 0; k < ports.length; k++) {
            check.due(x, "way(" + l + ", " + i + ", " + k + ")", ports[k], x.way(l, i, k), 0);
        }
        Boundaries.refused(check, x, "way(" + l + ", " + i + ", k)", 1, k -> x.way(l, i, k),
                Boundaries.outside(0, ports.length - 1));
    }

    @Sentence(promise = 11, says = "12 + s: from SWITCH s to s + 1; 14 + s: from SWITCH s + 1 to s.")
    static void promise11_portsBetweenTheFirstAndTheLastSwitch(Check check) {
        GapLinks x = Check.bus("bus switches 3 room 1 jitter 0 window 1 skew 1;end a at 0;end b at 1;end c at 2;"
                + "link k from a gap 8 length 1 to b;link m from b gap 8 length 1 to c a;link n from c gap 8 length 1 to b");
        way(check, x, 0, 0, 0, 12, 7);
        way(check, x, 1, 0, 1, 13, 8);
        way(check, x, 1, 1, 1, 14, 6);
        way(check, x, 2, 0, 2, 15, 7);
    }
}
