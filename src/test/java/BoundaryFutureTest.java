/** Boundary cases of promises 34 to 38, what will be and what is kept: each sentence has a test of its own. */
final class BoundaryFutureTest {
    public static void main(String[] args) throws IllegalAccessException {
        Boundaries.run(BoundaryFutureTest.class);
    }

    // ---- promise 34

    @Sentence(promise = 34, says = "heard() then. NONE: 1; 2.")
    static void promise34_noSuchReceiverOrWhatThenANumber(Check check) {
        GapLinks x = Check.bus(GreatestTest.greatest());
        for (int n : new int[] {0, 1, 600, 601}) {
            Boundaries.refused(check, x, "willHear(" + n + ", l, 0, 0)", 1, l -> x.willHear(n, l, 0, 0),
                    Boundaries.outside(0, 7));
            Boundaries.refused(check, x, "willHear(" + n + ", 7, i, 0)", 1, i -> x.willHear(n, 7, i, 0),
                    Boundaries.outside(0, 2));
            Boundaries.refused(check, x, "willHear(" + n + ", 0, 0, what)", 1, what -> x.willHear(n, 0, 0, what),
                    Boundaries.outside(0, 7));
        }
        Boundaries.refused(check, x, "willHear(n, 7, 2, 7)", 2, n -> x.willHear(n, 7, 2, 7), Boundaries.outside(1, 600));
        check.due(x, "willHear(1, 7, 2, 7)", -2, x.willHear(1, 7, 2, 7), 0);
        check.due(x, "willHear(600, 7, 2, 0)", 0, x.willHear(600, 7, 2, 0), 0);
        GapLinks none = new GapLinks();
        Boundaries.refused(check, none, "willHear(n, 0, 0, 0) without a bus", 1, n -> none.willHear(n, 0, 0, 0), 0, 1, 601);
    }

    @Sentence(promise = 34, says = "what will be, nothing else being done, behind n TICKS (1 .. 600)")
    static void promise34_behindOneTickAndBehindSixHundred(Check check) {
        GapLinks x = Boundaries.quick(1, 1);
        x.send(0, 1);
        x.ticks(2);
        String before = Boundaries.all(x);
        check.due("behind 1", 1, x.willHear(1, 0, 0, 0));
        check.due("nothing was done", true, before.equals(Boundaries.all(x)));
        // six a gap of 128 apart: the fifth is heard at 513 + 80, the sixth at 641 + 80
        GapLinks y = Check.bus(Boundaries.one(12, 0, 100, 999, 128, 40));
        y.send(0, 6);
        y.ticks(121);
        check.due("behind 471", 4, y.willHear(471, 0, 0, 0));
        check.due("behind 472", 5, y.willHear(472, 0, 0, 0));
        check.due("behind 599", 5, y.willHear(599, 0, 0, 0));
        check.due("behind 600", 6, y.willHear(600, 0, 0, 0));
        check.due("the TIME of the latest", 721, y.willHear(600, 0, 0, 4));
        check.due("TIME stays", 121, y.about(7));
        check.due("TAKEN stays", 1, y.heard(0, 0, 0));
        check.due("those that wait stay", 5, y.size(2));
    }

    // ---- promise 35

    @Sentence(promise = 35, says = "lost() then. NONE: 1; 2.")
    static void promise35_noSuchNetworkOrWhatThenANumber(Check check) {
        GapLinks x = Check.bus(Boundaries.least());
        for (int n : new int[] {0, 1, 600, 601}) {
            Boundaries.refused(check, x, "willLose(" + n + ", net, 0)", 1, net -> x.willLose(n, net, 0),
                    Boundaries.outside(0, 1));
            Boundaries.refused(check, x, "willLose(" + n + ", 1, what)", 1, what -> x.willLose(n, 1, what),
                    Boundaries.outside(0, 2));
        }
        Boundaries.refused(check, x, "willLose(n, 1, 2)", 2, n -> x.willLose(n, 1, 2), Boundaries.outside(1, 600));
        check.due(x, "willLose(1, 0, 0)", 0, x.willLose(1, 0, 0), 0);
        check.due(x, "willLose(600, 1, 2)", 0, x.willLose(600, 1, 2), 0);
        GapLinks none = new GapLinks();
        Boundaries.refused(check, none, "willLose(n, 0, 0) without a bus", 1, n -> none.willLose(n, 0, 0), 0, 1, 601);
    }

    @Sentence(promise = 35, says = "behind n TICKS (1 .. 600)")
    static void promise35_behindOneTickAndBehindSixHundred(Check check) {
        GapLinks x = Check.bus(Boundaries.one(1, 0, 1, 1, 8, 1));
        x.babble(0, 1);
        x.send(0, 1);
        // the message finds the port full at 1; the frame is at its switch at 2
        x.down(1, 1);
        String before = Boundaries.all(x);
        check.due("FULL, behind 1", 1, x.willLose(1, 0, 0));
        check.due("DOWN, behind 1", 0, x.willLose(1, 1, 1));
        check.due("DOWN, behind 2", 1, x.willLose(2, 1, 1));
        check.due("not in the other network", 0, x.willLose(600, 0, 1));
        check.due("nothing was done", true, before.equals(Boundaries.all(x)));
        // sixteen a gap of 32 apart, each of length 32: the first is at its switch at 33, the last at 513
        GapLinks y = Check.bus(Boundaries.one(12, 0, 1, 1, 32, 32));
        y.down(0, 1);
        y.send(0, 16);
        y.ticks(9);
        check.due("DOWN, behind 23", 0, y.willLose(23, 0, 1));
        check.due("DOWN, behind 24", 1, y.willLose(24, 0, 1));
        check.due("DOWN, behind 503", 15, y.willLose(503, 0, 1));
        check.due("DOWN, behind 504", 16, y.willLose(504, 0, 1));
        check.due("DOWN, behind 600", 16, y.willLose(600, 0, 1));
        y.babble(0, 3);
        // with three more it is nineteen, one behind the other: the last is at its switch at 1 + 19 * 32 = 609
        check.due("DOWN, behind 599", 18, y.willLose(599, 0, 1));
        check.due("DOWN, behind 600", 19, y.willLose(600, 0, 1));
        check.due("TIME stays", 9, y.about(7));
        check.due("none was LOST", 0, y.lost(0, 1));
    }

    // ---- promise 36

    @Sentence(promise = 36, says = "Behind how many TICKS (0 .. 2,000) no MESSAGE waits and no FRAME is in a PORT; -2 not so soon.")
    static void promise36_atOnceBehindTwoThousandTicksAndNotSoSoon(Check check) {
        GapLinks x = Boundaries.quick(1, 1);
        check.due(x, "nothing to wait for", 0, x.quiet(), 0);
        x.babble(0, 1);
        check.due(x, "a FRAME, ahead of any tick", 3, x.quiet(), 0);
        x.ticks(2);
        check.due(x, "one tick short", 1, x.quiet(), 0);
        x.ticks(1);
        check.due(x, "quiet", 0, x.quiet(), 0);
        x.ticks(8);
        x.send(0, 1);
        check.due(x, "a MESSAGE alone", 3, x.quiet(), 0);
        // the last of sixteen goes at 1 + 15 * 128 = 1921 and is heard 80 ticks behind that
        GapLinks y = Check.bus(Boundaries.one(1, 0, 1, 1, 128, 40));
        y.send(0, 16);
        check.due(y, "2,001 ticks are too many", -2, y.quiet(), 0);
        y.ticks(1);
        String before = Boundaries.all(y);
        check.due(y, "2,000 ticks", 2000, y.quiet(), 0);
        check.due("nothing was done", true, before.equals(Boundaries.all(y)));
        y.ticks(1);
        check.due(y, "1,999 ticks", 1999, y.quiet(), 0);
        GapLinks z = Check.bus(Boundaries.one(1, 0, 1, 1, 256, 40));
        z.send(0, 16);
        check.due(z, "a MESSAGE that waits beyond 2,000", -2, z.quiet(), 0);
        check.due("they wait", 16, z.size(2));
    }

    @Sentence(promise = 36, says = "NONE: 1 (no BUS).")
    static void promise36_noBus(Check check) {
        GapLinks none = new GapLinks();
        check.refused(none, "quiet() without a bus", none.quiet(), 1);
        Check.read(none, "bus switches 9");
        check.refused(none, "quiet() behind a fault", none.quiet(), 1);
    }

    // ---- promise 37

    @Sentence(promise = 37, says = "All is kept as it is (what was kept before is no more): true; false: 1 (no BUS).")
    static void promise37_noBusAndWhatWasKeptBefore(Check check) {
        GapLinks x = new GapLinks();
        check.due(x, "keep() without a bus", 0, x.keep() ? 1 : 0, 1);
        check.due("nothing is kept", 0, x.size(4));
        check.due(x, "back() behind that", 0, x.back() ? 1 : 0, 1);
        Check.read(x, "bus switches 9");
        check.due(x, "keep() behind a fault", 0, x.keep() ? 1 : 0, 1);
        Check.read(x, Boundaries.least());
        check.due(x, "keep() at 0", 1, x.keep() ? 1 : 0, 0);
        check.due("something is kept", 1, x.size(4));
        x.ticks(5);
        check.due(x, "keep() at 5", 1, x.keep() ? 1 : 0, 0);
        x.ticks(5);
        check.due(x, "back()", 1, x.back() ? 1 : 0, 0);
        check.due("what was kept at 0 is no more", 5, x.about(7));
    }

    @Sentence(promise = 37, says = "All is kept as it is")
    static void promise37_fullPortsAndQueuesAreKept(Check check) {
        GapLinks x = Check.bus(Boundaries.one(12, 1, 2, 9, 8, 2));
        x.babble(0, 20);
        x.ticks(14);
        x.send(0, 16);
        x.babble(0, 20);
        x.keep();
        String before = Boundaries.all(x);
        x.anew(0);
        x.ticks(5);
        x.babble(0, 3);
        x.back();
        check.due("all is as it was kept", true, before.equals(Boundaries.all(x)));
        check.due("the queue is full", 16, x.waits(0, 0));
        check.due("the port is full", 12, x.port(0, 0, 0));
    }

    // ---- promise 38

    @Sentence(promise = 38, says = "All is as it was kept (it stays kept): true; false: 1 (nothing is).")
    static void promise38_nothingIsKeptAndBackAgainAndAgain(Check check) {
        GapLinks x = new GapLinks();
        check.due(x, "back() without a bus", 0, x.back() ? 1 : 0, 1);
        Check.read(x, Boundaries.one(12, 0, 1, 99, 8, 1));
        x.send(0, 2);
        x.ticks(4);
        String before = Boundaries.all(x);
        check.due(x, "back() with nothing kept", 0, x.back() ? 1 : 0, 1);
        check.due("nothing was done", true, before.equals(Boundaries.all(x)));
        x.keep();
        String kept = Boundaries.all(x);
        for (int k = 0; k < 3; k++) {
            x.ticks(9);
            check.due(x, "back() again", 1, x.back() ? 1 : 0, 0);
            check.due("it stays kept", 1, x.size(4));
        }
        check.due("all is as it was kept", true, kept.equals(Boundaries.all(x)));
        Check.read(x, "bus switches 9");
        check.due(x, "back() behind a fault", 1, x.back() ? 1 : 0, 0);
        Check.read(x, Boundaries.least());
        check.due(x, "back() behind another bus", 0, x.back() ? 1 : 0, 1);
        check.due("TIME stays", 0, x.about(7));
    }

    @Sentence(promise = 38, says = "All is as it was kept")
    static void promise38_whatIsTriedOrDoneBetweenIsGone(Check check) {
        GapLinks x = Boundaries.quick(1, 999);
        Boundaries.sendAndHear(x, 2);
        x.down(1, 1);
        x.keep();
        x.willHear(600, 0, 0, 0);
        x.willLose(600, 0, 0);
        x.quiet();
        x.down(1, 0);
        x.down(0, 1);
        Boundaries.sendAndHear(x, 12);
        Boundaries.loseInBoth(x, 3);
        Boundaries.sendAndHear(x, 1);
        check.due("some were REFUSED", true, x.heard(0, 0, 1) > 0);
        x.back();
        check.due("TIME", 16, x.about(7));
        check.due("network 0 is not down", 0, x.down(0, 0));
        check.due("network 1 is", 1, x.down(1, 1));
        check.due("the next number", 2, x.waits(0, 2));
        check.due("NEXT", 17, x.waits(0, 1));
        check.due("taken(0, 0, 0)", 1, x.taken(0, 0, 0));
        check.due("taken(0, 0, 1)", 0, x.taken(0, 0, 1));
        check.refused(x, "taken(0, 0, 2)", x.taken(0, 0, 2), 1);
        check.due("SEEN", 1, x.seen(0, 0, 1));
        int[] heard = {2, 0, 2, 1, 11, 0, 2, 2};
        for (int what = 0; what < 8; what++) {
            check.due("heard(0, 0, " + what + ")", heard[what], x.heard(0, 0, what));
        }
    }

    @Sentence(promise = 38, says = "(it stays kept)")
    static void promise38_portsOfSeveralLinksAreAsTheyWereKept(Check check) {
        GapLinks x = Check.bus("bus switches 1 room 3 jitter 400 window 100 skew 999;end a at 0;end b at 0;"
                + "link k from a gap 8 length 2 to b;link m from a gap 8 length 3 to b");
        x.babble(0, 1);
        x.ticks(1);
        x.babble(1, 1);
        x.keep();
        for (int k = 0; k < 2; k++) {
            // so many go through it that not one place in it is as it was
            for (int more = 0; more < 12; more++) {
                x.babble(1, 3);
                x.ticks(6);
            }
            check.due("three were in it", 3, x.port(0, 0, 3));
            check.due("its first is m's", 1, x.frame(0, 0, 0, 0));
            check.due("k's is LATE", 5, x.heard(0, 0, 6));
            x.back();
            check.due("two are in it", 2, x.port(0, 0, 0));
            check.due("one was in it at most", 1, x.port(0, 0, 3));
            check.due("k's is the first", 0, x.frame(0, 0, 0, 0));
            check.due("m's is the second", 1, x.frame(0, 0, 1, 0));
            check.due("k's is being sent", 0, x.port(0, 0, 1));
            check.due("it is through at", 3, x.port(0, 0, 2));
            check.due("none is LATE", -2, x.heard(0, 0, 6));
            check.due("none is lost", 0, x.lost(0, 0));
        }
        x.ticks(100);
        check.due("k's is TAKEN", 1, x.heard(0, 0, 0));
        check.due("m's is TAKEN", 1, x.heard(1, 0, 0));
    }
}
