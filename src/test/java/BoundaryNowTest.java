/** Boundary cases of promises 12 to 17, how it is now (II): each sentence has a test of its own. */
final class BoundaryNowTest {
    /** Three ends at one switch; k from a and m from c both go to b, by port 7. */
    private static final String TWO = "bus switches 1 room 2 jitter 400 window 100 skew 999;end a at 0;end b at 0;end c at 0;"
            + "link k from a gap 8 length 2 to b;link m from c gap 8 length 2 to b";

    public static void main(String[] args) throws IllegalAccessException {
        Boundaries.run(BoundaryNowTest.class);
    }

    // ---- promise 12

    @Sentence(promise = 12, says = "Of a LINK 0 how many MESSAGES wait, 1 NEXT, 2 the NUMBER that the next FRAME will have,"
            + " 3 how many FRAMES were BORN, 4 the longest WAIT (-2 none began). NONE: 1.")
    static void promise12_noSuchLinkOrWhat(Check check) {
        GapLinks x = Check.bus(GreatestTest.greatest());
        for (int what = 0; what < 5; what++) {
            int asked = what;
            check.due(x, "waits(7, " + what + ")", what == 4 ? -2 : 0, x.waits(7, what), 0);
            Boundaries.refused(check, x, "waits(l, " + what + ")", 1, l -> x.waits(l, asked), Boundaries.outside(0, 7));
        }
        Boundaries.refused(check, x, "waits(0, what)", 1, what -> x.waits(0, what), Boundaries.outside(0, 4));
        GapLinks none = new GapLinks();
        check.refused(none, "waits(0, 0) without a bus", none.waits(0, 0), 1);
    }

    @Sentence(promise = 12, says = "MESSAGES wait in the QUEUE of a LINK (16 at most).")
    static void promise12_theQueueIsEmptyThenFull(Check check) {
        GapLinks x = Check.bus(Boundaries.one(12, 0, 1, 1, 256, 1));
        check.due("waits(0, 0), empty", 0, x.waits(0, 0));
        x.ticks(1);
        check.due("waits(0, 0), an empty queue has none to go", 0, x.waits(0, 0));
        check.due("waits(0, 3), none born", 0, x.waits(0, 3));
        x.send(0, 16);
        check.due("waits(0, 0), full", 16, x.waits(0, 0));
        x.send(0, 1);
        check.due("waits(0, 0), none more", 16, x.waits(0, 0));
        x.ticks(1);
        check.due("waits(0, 0), one went", 15, x.waits(0, 0));
        x.send(0, 1);
        check.due("waits(0, 0), full again", 16, x.waits(0, 0));
    }

    @Sentence(promise = 12, says = "whose NEXT is TIME or less (at first 0)")
    static void promise12_aMessageGoesWhenNextIsTimeAndNotATickAhead(Check check) {
        GapLinks x = Check.bus(Boundaries.one(12, 0, 1, 1, 8, 1));
        check.due("NEXT at first", 0, x.waits(0, 1));
        x.send(0, 3);
        x.ticks(1);
        check.due("the first goes at 1", 2, x.waits(0, 0));
        check.due("NEXT is TIME and GAP", 9, x.waits(0, 1));
        x.ticks(7);
        check.due("at 8 none goes", 2, x.waits(0, 0));
        x.ticks(1);
        check.due("at 9 one goes", 1, x.waits(0, 0));
        check.due("NEXT", 17, x.waits(0, 1));
        x.ticks(8);
        check.due("at 17 the last goes", 0, x.waits(0, 0));
        x.ticks(8);
        check.due("without a message NEXT stays", 25, x.waits(0, 1));
        x.ticks(5);
        x.send(0, 1);
        x.ticks(1);
        check.due("NEXT is less than TIME: it goes at once", 0, x.waits(0, 0));
        check.due("NEXT is TIME and GAP, not NEXT and GAP", 39, x.waits(0, 1));
    }

    @Sentence(promise = 12, says = "NUMBERS of a LINK: 0, 1 and on to 255, then 1 again.")
    static void promise12_behind255Comes1(Check check) {
        GapLinks x = Check.bus(Boundaries.one(1, 0, 1, 1, 8, 1));
        check.due("the first", 0, x.waits(0, 2));
        x.babble(0, 1);
        check.due("the second", 1, x.waits(0, 2));
        for (int k = 0; k < 12; k++) {
            x.babble(0, 20);
        }
        x.babble(0, 13);
        check.due("behind 254 numbers", 254, x.waits(0, 2));
        x.babble(0, 1);
        check.due("the last", 255, x.waits(0, 2));
        x.babble(0, 1);
        check.due("then 1, not 0", 1, x.waits(0, 2));
        x.babble(0, 1);
        check.due("then 2", 2, x.waits(0, 2));
        for (int k = 0; k < 12; k++) {
            x.babble(0, 20);
        }
        x.babble(0, 13);
        check.due("the last again", 255, x.waits(0, 2));
        x.babble(0, 1);
        check.due("1 again", 1, x.waits(0, 2));
    }

    @Sentence(promise = 12, says = "3 how many FRAMES were BORN")
    static void promise12_bornFramesAreCountedBeyond255AndIfLost(Check check) {
        GapLinks x = Check.bus(Boundaries.one(1, 0, 1, 1, 8, 1));
        check.due("none", 0, x.waits(0, 3));
        x.send(0, 1);
        check.due("a message is none yet", 0, x.waits(0, 3));
        x.ticks(1);
        check.due("one, though it goes on both networks", 1, x.waits(0, 3));
        for (int k = 0; k < 13; k++) {
            x.babble(0, 20);
        }
        check.due("those that are LOST at once, too", 261, x.waits(0, 3));
        x.anew(0);
        check.due("ANEW leaves them", 261, x.waits(0, 3));
    }

    @Sentence(promise = 12, says = "4 the longest WAIT (-2 none began)")
    static void promise12_noWaitThenNoneThenTheLongest(Check check) {
        GapLinks x = Check.bus(Boundaries.one(12, 400, 1, 1, 8, 3));
        check.due("none began", -2, x.waits(0, 4));
        x.send(0, 1);
        check.due("a message does not begin", -2, x.waits(0, 4));
        x.ticks(1);
        check.due("it begins in the tick in which it is BORN", 0, x.waits(0, 4));
        x.babble(0, 2);
        check.due("two came, none of them began", 0, x.waits(0, 4));
        x.ticks(2);
        check.due("the port is busy", 0, x.waits(0, 4));
        x.ticks(1);
        check.due("BORN at 1, it begins at 4", 3, x.waits(0, 4));
        x.ticks(3);
        check.due("BORN at 1, it begins at 7", 6, x.waits(0, 4));
        x.ticks(20);
        x.send(0, 1);
        x.ticks(1);
        check.due("a shorter one leaves the longest", 6, x.waits(0, 4));
    }

    @Sentence(promise = 12, says = "WAIT of a FRAME: from when it was BORN till its END's PORT begins to send it.")
    static void promise12_aFrameThatIsLostAtAFullPortNeverBegins(Check check) {
        GapLinks x = Check.bus("bus switches 1 room 1 jitter 0 window 1 skew 1;end a at 0;end b at 0;"
                + "link k from a gap 8 length 1 to b;link m from a gap 8 length 1 to b");
        x.send(0, 1);
        x.send(1, 1);
        x.ticks(20);
        check.due("k began", 0, x.waits(0, 4));
        check.due("m found the port full", 1, x.lost(0, 0));
        check.due("m never began", -2, x.waits(1, 4));
        check.due("m was BORN", 1, x.waits(1, 3));
    }

    @Sentence(promise = 12, says = "till its END's PORT begins to send it")
    static void promise12_noWaitInAPortBehindASwitch(Check check) {
        // k's and m's are at the switch at 6; m's begins in port 6, the first behind a switch, at 11
        GapLinks x = Check.bus("bus switches 1 room 12 jitter 0 window 2 skew 60;end a at 0;end b at 0;end c at 0;"
                + "link k from b gap 64 length 5 to a;link m from c gap 64 length 5 to a");
        x.send(0, 1);
        x.send(1, 1);
        x.ticks(20);
        check.due("m was 15 late", 15, x.heard(1, 0, 6));
        check.due("WAIT of k", 0, x.waits(0, 4));
        check.due("WAIT of m, of another END", 0, x.waits(1, 4));
        x.babble(1, 2);
        x.ticks(6);
        check.due("WAIT of m, at its END's port", 6, x.waits(1, 4));
    }

    // ---- promise 13

    @Sentence(promise = 13, says = "CREDIT of a LINK in a NETWORK. NONE: 1.")
    static void promise13_noSuchLinkOrNetwork(Check check) {
        GapLinks x = Check.bus(GreatestTest.greatest());
        for (int net = 0; net < 2; net++) {
            int asked = net;
            check.due(x, "credit(" + net + ", 0)", 656, x.credit(net, 0), 0);
            check.due(x, "credit(" + net + ", 7)", 8 * 656, x.credit(net, 7), 0);
            Boundaries.refused(check, x, "credit(" + net + ", l)", 1, l -> x.credit(asked, l), Boundaries.outside(0, 7));
        }
        Boundaries.refused(check, x, "credit(net, 0)", 1, net -> x.credit(net, 0), Boundaries.outside(0, 1));
        GapLinks none = new GapLinks();
        check.refused(none, "credit(0, 0) without a bus", none.credit(0, 0), 1);
    }

    @Sentence(promise = 13, says = "First each LINK's CREDIT in each NETWORK is LENGTH more, LENGTH times (GAP and JITTER) at"
            + " most (at first it is that).")
    static void promise13_creditAtItsMostNoneAndBackAtItsMost(Check check) {
        GapLinks least = Check.bus(Boundaries.least());
        check.due("1 times (8 and 0)", 8, least.credit(0, 0));
        GapLinks most = Check.bus(Boundaries.one(1, 400, 1, 1, 256, 40));
        check.due("40 times (256 and 400)", 26240, most.credit(1, 0));
        GapLinks x = Check.bus(Boundaries.one(12, 1, 1, 999, 8, 3));
        check.due("at first", 27, x.credit(0, 0));
        x.ticks(1);
        check.due("no more than that", 27, x.credit(0, 0));
        x.babble(0, 1);
        // at the switch at 5: 24 less
        x.ticks(4);
        check.due("24 less", 3, x.credit(0, 0));
        x.ticks(7);
        check.due("3 more a tick, 1 tick short of its most", 24, x.credit(0, 0));
        x.ticks(1);
        check.due("its most", 27, x.credit(0, 0));
        x.ticks(1);
        check.due("no more than that", 27, x.credit(0, 0));
        x.ticks(600);
        check.due("nor behind 600 ticks", 27, x.credit(0, 0));
    }

    @Sentence(promise = 13, says = "each LINK's CREDIT in each NETWORK")
    static void promise13_theFirstAndTheLastLinkInBothNetworks(Check check) {
        // the last link is from b, of length 8: at the switch at 9, 8 * 256 less, 8 more a tick
        GapLinks x = Check.bus(GreatestTest.greatest());
        x.babble(7, 1);
        x.ticks(9);
        for (int l = 0; l < 8; l++) {
            for (int net = 0; net < 2; net++) {
                int most = (l + 1) * 656;
                check.due("credit(" + net + ", " + l + ")", l == 7 ? most - 8 * 256 : most, x.credit(net, l));
            }
        }
        x.ticks(1);
        check.due("credit(0, 7) a tick later", 8 * (656 - 256 + 1), x.credit(0, 7));
        check.due("credit(1, 7) a tick later", 8 * (656 - 256 + 1), x.credit(1, 7));
        x.ticks(254);
        check.due("credit(1, 7), a tick short of its most", 8 * 655, x.credit(1, 7));
        x.ticks(1);
        check.due("credit(0, 7), its most", 8 * 656, x.credit(0, 7));
        check.due("credit(1, 7), its most", 8 * 656, x.credit(1, 7));
        check.due("credit(1, 0)", 656, x.credit(1, 0));
    }

    // ---- promise 14

    @Sentence(promise = 14, says = "NONE: 1 (no such NETWORK, PORT: of an END, a SWITCH that isn't there).")
    static void promise14_portsOfEndsAndSwitchesThatAreNotThere(Check check) {
        for (int switches = 1; switches <= 3; switches++) {
            for (int ends = 2; ends <= 6; ends++) {
                GapLinks x = Check.bus(busOf(switches, ends));
                for (int p = 0; p < 16; p++) {
                    boolean there = p < 12 ? p % 6 < ends : p % 2 + 1 < switches;
                    String call = "port(1, " + p + ", 0) of " + switches + " switches, " + ends + " ends";
                    check.due(x, call, there ? 0 : -1, x.port(1, p, 0), there ? 0 : 1);
                }
                Boundaries.refused(check, x, "port(0, p, 0)", 1, p -> x.port(0, p, 0), Boundaries.outside(0, 15));
            }
        }
        GapLinks x = Check.bus(Boundaries.least());
        Boundaries.refused(check, x, "port(net, 0, 0)", 1, net -> x.port(net, 0, 0), Boundaries.outside(0, 1));
        Boundaries.refused(check, x, "port(0, 0, what)", 1, what -> x.port(0, 0, what), Boundaries.outside(0, 3));
        GapLinks none = new GapLinks();
        check.refused(none, "port(0, 0, 0) without a bus", none.port(0, 0, 0), 1);
        check.refused(none, "port(0, 12, 0) without a bus", none.port(0, 12, 0), 1);
    }

    private static String busOf(int switches, int ends) {
        StringBuilder text = new StringBuilder("bus switches " + switches + " room 1 jitter 0 window 1 skew 1");
        for (int e = 0; e < ends; e++) {
            text.append(";end " + (char) ('a' + e) + " at 0");
        }
        return text + ";link k from a gap 8 length 1 to b";
    }

    @Sentence(promise = 14, says = "0 how many FRAMES are in it, 1 the LINK whose is being sent (-2), 2 when it is through (-2)")
    static void promise14_anEmptyPortAndOneThatSendsNoneYet(Check check) {
        GapLinks x = Check.bus(Boundaries.one(12, 400, 1, 1, 8, 3));
        port(check, x, 0, -2, -2);
        x.babble(0, 2);
        port(check, x, 2, -2, -2);
        x.ticks(1);
        port(check, x, 2, 0, 4);
        x.ticks(2);
        port(check, x, 2, 0, 4);
        x.ticks(1);
        port(check, x, 1, 0, 7);
        x.ticks(3);
        port(check, x, 0, -2, -2);
    }

    @Sentence(promise = 14, says = "1 the LINK whose is being sent (-2)")
    static void promise14_ofSeveralLinksTheFirstsIsBeingSent(Check check) {
        GapLinks x = Check.bus("bus switches 1 room 2 jitter 400 window 1 skew 1;end a at 0;end b at 0;"
                + "link k from b gap 8 length 2 to a;link m from b gap 8 length 3 to a");
        x.babble(1, 1);
        x.babble(0, 1);
        x.ticks(1);
        check.due("m's is being sent", 1, x.port(0, 1, 1));
        check.due("it is through at", 4, x.port(0, 1, 2));
        x.ticks(3);
        check.due("k's is being sent", 0, x.port(0, 1, 1));
        check.due("it is through at", 6, x.port(0, 1, 2));
        check.due("m's is being sent behind the switch", 1, x.port(1, 6, 1));
    }

    private static void port(Check check, GapLinks x, int frames, int link, int through) {
        for (int net = 0; net < 2; net++) {
            check.due(x, "port(" + net + ", 0, 0)", frames, x.port(net, 0, 0), 0);
            check.due(x, "port(" + net + ", 0, 1)", link, x.port(net, 0, 1), 0);
            check.due(x, "port(" + net + ", 0, 2)", through, x.port(net, 0, 2), 0);
        }
    }

    @Sentence(promise = 14, says = "3 the most that ever were in it behind a TICK")
    static void promise14_theMostBehindATickNotAheadOfIt(Check check) {
        GapLinks x = Check.bus(Boundaries.one(2, 400, 1, 1, 8, 3));
        check.due("none ever", 0, x.port(0, 0, 3));
        x.babble(0, 1);
        check.due("one, but behind no tick", 0, x.port(0, 0, 3));
        x.ticks(1);
        check.due("one", 1, x.port(0, 0, 3));
        x.ticks(2);
        x.babble(0, 1);
        // of the two in it one goes in the very next tick, at 4
        x.ticks(1);
        check.due("two, but behind no tick", 1, x.port(0, 0, 3));
        x.babble(0, 9);
        x.ticks(1);
        check.due("ROOM, those that are LOST never were in it", 2, x.port(0, 0, 3));
        x.ticks(100);
        check.due("the most that ever were", 2, x.port(0, 0, 3));
        check.due("none now", 0, x.port(0, 0, 0));
        // one is through at 11; those that come at 8 or 9 are in it behind a tick, all at once or tick by tick
        for (int ahead = 1; ahead <= 3; ahead++) {
            GapLinks y = Check.bus(Boundaries.one(12, 400, 1, 1, 256, 10));
            y.babble(0, 1);
            y.ticks(11 - ahead);
            y.babble(0, 4);
            y.ticks(ahead);
            check.due(ahead + " ahead of its leaving", ahead == 1 ? 4 : 5, y.port(0, 0, 3));
            check.due("in the other network, too", ahead == 1 ? 4 : 5, y.port(1, 0, 3));
        }
    }

    @Sentence(promise = 14, says = "A FRAME in a PORT (ROOM of them at most, with the one that is being sent; one more is LOST,"
            + " FULL) is sent in the order in which they came.")
    static void promise14_aPortIsFullWithTheOneThatIsBeingSent(Check check) {
        for (int room : new int[] {1, 2, 11, 12}) {
            GapLinks x = Check.bus(Boundaries.one(room, 400, 100, 999, 8, 3));
            check.due("ROOM of them", 0, x.babble(0, room));
            check.due("port(0, 0, 0)", room, x.port(0, 0, 0));
            check.due("one more, in both networks", 2, x.babble(0, 1));
            check.due("port(0, 0, 0)", room, x.port(0, 0, 0));
            x.ticks(3);
            check.due("one more while one is being sent", 2, x.babble(0, 1));
            x.ticks(1);
            check.due("one went", room - 1, x.port(0, 0, 0));
            check.due("now one more finds room", 0, x.babble(0, 1));
            check.due("port(1, 0, 0)", room, x.port(1, 0, 0));
            check.due("it is the last", room + 2, x.frame(1, 0, room - 1, 1));
            check.due("lost(0, 0)", 2, x.lost(0, 0));
            check.due("lost(1, 0)", 2, x.lost(1, 0));
        }
    }

    @Sentence(promise = 14, says = "Then each PORT that sends none and has some begins to send its first: it is through at TIME"
            + " and LENGTH.")
    static void promise14_theLeastAndTheGreatestLength(Check check) {
        for (int length : new int[] {1, 40}) {
            GapLinks x = Check.bus(Boundaries.one(2, 400, 1, 1, 256, length));
            x.babble(0, 2);
            x.ticks(1);
            check.due("through at TIME and LENGTH", 1 + length, x.port(0, 0, 2));
            x.ticks(length);
            check.due("the first went, the next begins in the same tick", 1 + 2 * length, x.port(0, 0, 2));
            check.due("the first begins behind its switch in the same tick", 1 + 2 * length, x.port(0, 7, 2));
            check.due("one is left", 1, x.port(0, 0, 0));
            x.ticks(length);
            check.due("none is left", -2, x.port(0, 0, 2));
            check.due("the first is TAKEN", 1, x.heard(0, 0, 0));
        }
    }

    // ---- promise 15

    @Sentence(promise = 15, says = "The LINK of the i-th FRAME in a PORT, its NUMBER, BORN (what 0, 1, 2). NONE: 1.")
    static void promise15_theFirstAndTheLastFrameAndNoneBeyond(Check check) {
        GapLinks x = Check.bus(Boundaries.one(12, 400, 1, 1, 8, 1));
        Boundaries.refused(check, x, "frame(0, 0, i, 0) of an empty port", 1, i -> x.frame(0, 0, i, 0), -1, 0, 1, 11, 12);
        x.ticks(4);
        x.babble(0, 12);
        int[] first = {0, 0, 4};
        int[] last = {0, 11, 4};
        for (int what = 0; what < 3; what++) {
            int asked = what;
            check.due(x, "frame(1, 0, 0, " + what + ")", first[what], x.frame(1, 0, 0, what), 0);
            check.due(x, "frame(1, 0, 11, " + what + ")", last[what], x.frame(1, 0, 11, what), 0);
            Boundaries.refused(check, x, "frame(1, 0, i, " + what + ") of a full port", 1, i -> x.frame(1, 0, i, asked),
                    Boundaries.outside(0, 11));
        }
        Boundaries.refused(check, x, "frame(0, 0, 0, what)", 1, what -> x.frame(0, 0, 0, what), Boundaries.outside(0, 2));
        Boundaries.refused(check, x, "frame(net, 0, 0, 0)", 1, net -> x.frame(net, 0, 0, 0), Boundaries.outside(0, 1));
        Boundaries.refused(check, x, "frame(0, p, 0, 0)", 1, p -> x.frame(0, p, 0, 0), Boundaries.outside(0, 15));
        Boundaries.refused(check, x, "frame(0, p, 0, 0) of a port that is empty or not there", 1,
                p -> x.frame(0, p, 0, 0), 1, 2, 5, 6, 7, 12, 13, 14, 15);
        GapLinks none = new GapLinks();
        check.refused(none, "frame(0, 0, 0, 0) without a bus", none.frame(0, 0, 0, 0), 1);
    }

    @Sentence(promise = 15, says = "is sent in the order in which they came")
    static void promise15_aFullPortThatGoesOnForLongKeepsItsOrder(Check check) {
        GapLinks x = Check.bus(Boundaries.one(12, 400, 1, 1, 8, 1));
        check.due("babble(0, 12)", 0, x.babble(0, 12));
        x.ticks(1);
        for (int k = 1; k <= 30; k++) {
            x.ticks(1);
            check.due("a place is free", 0, x.babble(0, 1));
            check.due("the first", k, x.frame(0, 0, 0, 1));
            check.due("the middle", k + 6, x.frame(0, 0, 6, 1));
            check.due("the last", k + 11, x.frame(0, 0, 11, 1));
            check.due("BORN of the last", k + 1, x.frame(1, 0, 11, 2));
        }
    }

    @Sentence(promise = 15, says = "its NUMBER")
    static void promise15_numbers255And1StandSideBySide(Check check) {
        GapLinks x = Check.bus(Boundaries.one(2, 400, 1, 1, 8, 1));
        x.babble(0, 2);
        for (int k = 0; k < 12; k++) {
            x.babble(0, 20);
        }
        x.babble(0, 13);
        x.ticks(3);
        check.due("empty", 0, x.port(0, 0, 0));
        x.babble(0, 2);
        check.due("255", 255, x.frame(0, 0, 0, 1));
        check.due("then 1", 1, x.frame(0, 0, 1, 1));
    }

    // ---- promise 16

    @Sentence(promise = 16, says = "NONE: 1 (no BUS, too).")
    static void promise16_noBusNoSuchNetworkOrWhat(Check check) {
        GapLinks none = new GapLinks();
        for (int what = 0; what < 3; what++) {
            check.refused(none, "lost(0, " + what + ") without a bus", none.lost(0, what), 1);
            check.refused(none, "lost(1, " + what + ") without a bus", none.lost(1, what), 1);
        }
        GapLinks x = Check.bus(Boundaries.least());
        for (int net = 0; net < 2; net++) {
            int asked = net;
            for (int what = 0; what < 3; what++) {
                check.due(x, "lost(" + net + ", " + what + ")", 0, x.lost(net, what), 0);
            }
            Boundaries.refused(check, x, "lost(" + net + ", what)", 1, what -> x.lost(asked, what),
                    Boundaries.outside(0, 2));
        }
        Boundaries.refused(check, x, "lost(net, 0)", 1, net -> x.lost(net, 0), Boundaries.outside(0, 1));
    }

    @Sentence(promise = 16, says = "How many FRAMES of a NETWORK were LOST 0 FULL")
    static void promise16_fullAtAPortBehindASwitchInOneNetworkAlone(Check check) {
        // k's and m's frames are at the switch at 3, 5, 7 and each goes by port 7, which has room for two
        GapLinks x = Check.bus(TWO);
        x.babble(0, 2);
        x.babble(1, 2);
        x.ticks(3);
        check.due("port 7 is just full", 2, x.port(0, 7, 0));
        check.due("none is LOST", 0, x.lost(0, 0));
        x.down(1, 1);
        // at 5 k's comes ahead of port 7's leaving, and is LOST; m's too; in network 1 both are LOST, DOWN
        x.ticks(2);
        check.due("lost(0, 0)", 2, x.lost(0, 0));
        check.due("lost(1, 0)", 0, x.lost(1, 0));
        check.due("lost(1, 1)", 2, x.lost(1, 1));
        check.due("port 7, one went", 1, x.port(0, 7, 0));
    }

    @Sentence(promise = 16, says = "Then, by NETWORKS, by PORTS, each FRAME that is through at this TIME leaves its PORT and"
            + " ARRIVES there.")
    static void promise16_whoArrivesAheadOfTheLeavingOfAFullPortIsLost(Check check) {
        // a comes by port 0, ahead of port 7 (to b); it finds the port full in which b's frame leaves at the same tick
        GapLinks x = Check.bus(TWO.replace("room 2", "room 1"));
        x.babble(0, 1);
        x.ticks(2);
        x.babble(1, 1);
        // k's is in port 7 from 3 to 5; m's begins at 3 and is at the switch at 5
        x.ticks(3);
        check.due("m's is LOST in both", 2, x.lost(0, 0) + x.lost(1, 0));
        check.due("k's is TAKEN", 1, x.heard(0, 0, 0));
        GapLinks y = Check.bus(TWO.replace("room 2", "room 1"));
        y.babble(0, 1);
        y.ticks(3);
        y.babble(1, 1);
        // a tick later the port is free
        y.ticks(5);
        check.due("none is LOST", 0, y.lost(0, 0) + y.lost(1, 0));
        check.due("m's is TAKEN", 1, y.heard(1, 0, 0));
    }

    @Sentence(promise = 16, says = "Then it comes, by PORT's numbers, into each by which RECEIVERS of its LINK lie from here")
    static void promise16_onlyTheFullOnesOfSeveralPortsLoseIt(Check check) {
        // m's is in port 7 from 3 to 5; k's comes at 5 into ports 7, 8 and 9
        GapLinks x = Check.bus("bus switches 1 room 1 jitter 0 window 1 skew 1;end a at 0;end b at 0;end c at 0;end d at 0;"
                + "end e at 0;link k from a gap 8 length 4 to d b c;link m from e gap 16 length 2 to b;"
                + "link n from e gap 16 length 2 to d");
        x.babble(1, 1);
        x.babble(0, 1);
        x.ticks(4);
        check.due("none is LOST yet", 0, x.lost(0, 0));
        x.ticks(1);
        check.due("port 7 was full ahead of its leaving", 1, x.lost(0, 0));
        check.due("port 8", 1, x.port(0, 8, 0));
        check.due("port 9", 1, x.port(0, 9, 0));
        x.ticks(4);
        check.due("d TAKES it", 1, x.heard(0, 0, 0));
        check.due("b does not", 0, x.heard(0, 1, 0));
        check.due("c TAKES it", 1, x.heard(0, 2, 0));
    }

    @Sentence(promise = 16, says = "by NETWORKS, by PORTS")
    static void promise16_betweenSwitchesTheLesserPortGoesFirst(Check check) {
        // n's is in port 13 from 3 to 5, o's in port 14; k's comes by port 12 at 5, m's by port 15
        String text = "bus switches 3 room 1 jitter 0 window 1 skew 1;end a at 0;end b at 2;end c at 1;";
        GapLinks right = Check.bus(text + "link k from a gap 8 length 2 to b;link n from c gap 8 length 2 to b");
        right.babble(0, 1);
        right.babble(1, 1);
        right.ticks(20);
        check.due("12 goes ahead of 13: k's is LOST", 1, right.lost(0, 0));
        check.due("in the other network, too", 1, right.lost(1, 0));
        check.due("k TAKEN", 0, right.heard(0, 0, 0));
        check.due("n TAKEN", 1, right.heard(1, 0, 0));
        GapLinks left = Check.bus(text + "link m from b gap 8 length 2 to a;link o from c gap 8 length 2 to a");
        left.babble(0, 1);
        left.babble(1, 1);
        left.ticks(20);
        check.due("14 goes ahead of 15: m's finds room", 0, left.lost(0, 0) + left.lost(1, 0));
        check.due("m TAKEN", 1, left.heard(0, 0, 0));
        check.due("o TAKEN", 1, left.heard(1, 0, 0));
    }

    @Sentence(promise = 16, says = "if the NETWORK is DOWN, it is LOST (DOWN)")
    static void promise16_downAtTheVeryTickOfArrivingAndAtNoOther(Check check) {
        GapLinks x = Boundaries.quick(100, 999);
        x.send(0, 1);
        x.ticks(1);
        x.down(0, 1);
        x.ticks(1);
        check.due("it arrives at 2, DOWN", 1, x.lost(0, 1));
        check.due("not in the other", 0, x.lost(1, 1));
        check.due("CREDIT stays", 8, x.credit(0, 0));
        x.down(0, 0);
        x.ticks(7);
        x.down(1, 1);
        x.send(0, 1);
        x.ticks(1);
        x.down(1, 0);
        x.ticks(1);
        check.due("DOWN ahead of its arriving is nothing", 0, x.lost(1, 1));
        x.down(1, 1);
        x.ticks(1);
        check.due("nor at an END", 1, x.seen(0, 0, 1));
        check.due("lost(1, 1)", 0, x.lost(1, 1));
    }

    @Sentence(promise = 16, says = "back where it came from aside")
    static void promise16_noFrameGoesBackWhereItCameFrom(Check check) {
        GapLinks x = Check.bus("bus switches 3 room 12 jitter 0 window 1 skew 60;end a at 0;end b at 1;end c at 2;"
                + "link k from b gap 64 length 2 to a c");
        x.send(0, 1);
        check.due("each RECEIVER TAKES it", 2, x.ticks(60));
        check.due("once in each network", 2, x.heard(0, 0, 2) + x.heard(0, 1, 2));
        check.due("none is LOST", 0, x.lost(0, 0) + x.lost(0, 1) + x.lost(0, 2));
        check.due("port 12 never had one", 0, x.port(0, 12, 3));
        check.due("port 15 never had one", 0, x.port(0, 15, 3));
        check.due("port 7, to b itself, never had one", 0, x.port(0, 7, 3));
        check.due("all is through", 0, x.size(3));
    }

    // ---- promise 17

    @Sentence(promise = 17, says = "How many of a LINK were POLICED in a NETWORK. NONE: 1.")
    static void promise17_noSuchLinkOrNetwork(Check check) {
        GapLinks x = Check.bus(GreatestTest.greatest());
        for (int net = 0; net < 2; net++) {
            int asked = net;
            check.due(x, "policed(" + net + ", 7)", 0, x.policed(net, 7), 0);
            Boundaries.refused(check, x, "policed(" + net + ", l)", 1, l -> x.policed(asked, l), Boundaries.outside(0, 7));
        }
        Boundaries.refused(check, x, "policed(net, 0)", 1, net -> x.policed(net, 0), Boundaries.outside(0, 1));
        GapLinks none = new GapLinks();
        check.refused(none, "policed(0, 0) without a bus", none.policed(0, 0), 1);
    }

    @Sentence(promise = 17, says = "its CREDIT there is LENGTH times GAP less, or, if that is more than there is, it is LOST"
            + " (POLICED), CREDIT stays.")
    static void promise17_justCreditEnoughAndJustTooLittle(Check check) {
        for (int jitter = 0; jitter <= 3; jitter++) {
            String text = Boundaries.one(12, jitter, 100, 999, 8, 2);
            GapLinks x = Check.bus(text);
            x.babble(0, 1);
            x.ticks(8 - jitter);
            x.babble(0, 1);
            x.ticks(3);
            check.due("GAP less JITTER apart, jitter " + jitter, 0, x.policed(0, 0) + x.policed(1, 0));
            check.due("CREDIT is all gone", 0, x.credit(0, 0));
            check.due("in the other network, too", 0, x.credit(1, 0));
            GapLinks y = Check.bus(text);
            y.babble(0, 1);
            y.ticks(7 - jitter);
            y.babble(0, 1);
            y.ticks(2);
            check.due("not at the switch yet", 0, y.policed(0, 0));
            y.ticks(1);
            check.due("a tick less, jitter " + jitter, 1, y.policed(0, 0));
            check.due("in the other network, too", 1, y.policed(1, 0));
            check.due("lost(0, 2)", 1, y.lost(0, 2));
            check.due("CREDIT stays, a LENGTH too little", 14, y.credit(0, 0));
            y.ticks(20);
            check.due("it is not TAKEN", 1, y.heard(0, 0, 0));
        }
    }

    @Sentence(promise = 17, says = "How many of a LINK were POLICED in a NETWORK.")
    static void promise17_theFirstAndTheLastLinkInOneNetworkOrBoth(Check check) {
        GapLinks x = Check.bus(GreatestTest.greatest());
        // credit is that of two and a half frames: of three the last is POLICED
        x.babble(7, 3);
        x.ticks(17);
        check.due("none yet", 0, x.policed(0, 7) + x.policed(1, 7));
        x.down(1, 1);
        x.ticks(8);
        x.down(1, 0);
        check.due("policed(0, 7)", 1, x.policed(0, 7));
        check.due("policed(1, 7), it was LOST, DOWN", 0, x.policed(1, 7));
        x.babble(7, 3);
        x.ticks(25);
        check.due("policed(0, 7)", 4, x.policed(0, 7));
        check.due("policed(1, 7)", 3, x.policed(1, 7));
        x.babble(0, 4);
        x.ticks(5);
        check.due("policed(0, 0)", 2, x.policed(0, 0));
        check.due("policed(1, 0)", 2, x.policed(1, 0));
        for (int l = 1; l < 7; l++) {
            check.due("policed of another", 0, x.policed(0, l) + x.policed(1, l));
        }
        check.due("lost(0, 2)", 6, x.lost(0, 2));
        check.due("lost(1, 2)", 5, x.lost(1, 2));
    }

    @Sentence(promise = 17, says = "if it came from an END")
    static void promise17_onlyTheFirstSwitchPolices(Check check) {
        GapLinks x = Check.bus("bus switches 3 room 12 jitter 0 window 1 skew 60;end a at 0;end b at 2;"
                + "link k from a gap 8 length 1 to b");
        x.send(0, 2);
        x.ticks(2);
        check.due("at the first switch", 0, x.credit(0, 0));
        x.ticks(1);
        check.due("at the second none goes", 1, x.credit(0, 0));
        x.ticks(1);
        check.due("nor at the third", 2, x.credit(0, 0));
        x.ticks(20);
        check.due("both are TAKEN", 2, x.heard(0, 0, 0));
        check.due("policed(0, 0)", 0, x.policed(0, 0));
    }
}
