/** Boundary cases of promises 29 to 33, acts (III): each sentence has a test of its own. */
final class BoundaryActsTest {
    public static void main(String[] args) throws IllegalAccessException {
        Boundaries.run(BoundaryActsTest.class);
    }

    // ---- promise 29

    @Sentence(promise = 29, says = "n MESSAGES (1 .. 16) come: how many wait then.")
    static void promise29_oneAndSixteenMessages(Check check) {
        GapLinks x = Check.bus(GreatestTest.greatest());
        check.due(x, "send(0, 1)", 1, x.send(0, 1), 0);
        check.due(x, "send(0, 15)", 16, x.send(0, 15), 0);
        check.due(x, "send(7, 16)", 16, x.send(7, 16), 0);
        check.due("the queue of another", 0, x.waits(6, 0));
        x.ticks(1);
        check.due(x, "send(7, 1), one went", 16, x.send(7, 1), 0);
    }

    @Sentence(promise = 29, says = "NONE: 1; 2; 3 (there would be more than 16: none comes).")
    static void promise29_noSuchLinkANumberNoRoomInThisOrder(Check check) {
        GapLinks x = Check.bus(Boundaries.one(12, 0, 1, 1, 256, 1));
        Boundaries.refused(check, x, "send(l, 1)", 1, l -> x.send(l, 1), Boundaries.outside(0, 0));
        Boundaries.refused(check, x, "send(0, n)", 2, n -> x.send(0, n), Boundaries.outside(1, 16));
        check.due("none came", 0, x.waits(0, 0));
        Boundaries.refused(check, x, "send(1, n), 1 goes ahead of 2", 1, n -> x.send(1, n), Boundaries.outside(1, 16));
        x.send(0, 15);
        check.refused(x, "send(0, 2), 17 would wait", x.send(0, 2), 3);
        check.due("none comes", 15, x.waits(0, 0));
        check.due(x, "send(0, 1), 16 wait", 16, x.send(0, 1), 0);
        check.refused(x, "send(0, 1), 17 would wait", x.send(0, 1), 3);
        check.refused(x, "send(0, 16), 32 would wait", x.send(0, 16), 3);
        Boundaries.refused(check, x, "send(0, n), 2 goes ahead of 3", 2, n -> x.send(0, n), Boundaries.outside(1, 16));
        check.due("none comes", 16, x.waits(0, 0));
        GapLinks none = new GapLinks();
        check.refused(none, "send(0, 1) without a bus", none.send(0, 1), 1);
        check.refused(none, "send(0, 0) without a bus", none.send(0, 0), 1);
    }

    // ---- promise 30

    @Sentence(promise = 30, says = "n FRAMES (1 .. 20) BABBLE: how many were LOST (FULL, both NETWORKS together).")
    static void promise30_oneToTwentyIntoAPortWithRoomForTwelve(Check check) {
        for (int n : new int[] {1, 12, 13, 20}) {
            GapLinks x = Check.bus(Boundaries.one(12, 0, 1, 1, 8, 1));
            check.due(x, "babble(0, " + n + ")", n <= 12 ? 0 : 2 * (n - 12), x.babble(0, n), 0);
            check.due("in the port", Math.min(n, 12), x.port(0, 0, 0));
            check.due("in the other network's", Math.min(n, 12), x.port(1, 0, 0));
            check.due("LOST, FULL", Math.max(0, n - 12), x.lost(0, 0));
            check.due("LOST, FULL, in the other network", Math.max(0, n - 12), x.lost(1, 0));
            check.due("the next number", n, x.waits(0, 2));
            check.due("BORN", n, x.waits(0, 3));
        }
        GapLinks full = Check.bus(Boundaries.one(1, 0, 1, 1, 8, 1));
        check.due(full, "babble(0, 1), room 1", 0, full.babble(0, 1), 0);
        check.due(full, "babble(0, 1), full", 2, full.babble(0, 1), 0);
        check.due(full, "babble(0, 20), full", 40, full.babble(0, 20), 0);
    }

    @Sentence(promise = 30, says = "NONE: 1; 2.")
    static void promise30_noSuchLinkThenANumber(Check check) {
        GapLinks x = Check.bus(Boundaries.least());
        Boundaries.refused(check, x, "babble(l, 1)", 1, l -> x.babble(l, 1), Boundaries.outside(0, 0));
        Boundaries.refused(check, x, "babble(0, n)", 2, n -> x.babble(0, n), Boundaries.outside(1, 20));
        Boundaries.refused(check, x, "babble(1, n), 1 goes ahead of 2", 1, n -> x.babble(1, n), Boundaries.outside(1, 20));
        check.due("none came", 0, x.size(3));
        check.due("none was BORN", 0, x.waits(0, 3));
        GapLinks none = new GapLinks();
        check.refused(none, "babble(0, 1) without a bus", none.babble(0, 1), 1);
        check.refused(none, "babble(0, 0) without a bus", none.babble(0, 0), 1);
    }

    @Sentence(promise = 30, says = "a LINK BABBLES: so many FRAMES, BORN now, come into the PORT of its END in both NETWORKS at once")
    static void promise30_bornNowAndNoGapIsKept(Check check) {
        GapLinks x = Check.bus(Boundaries.one(12, 0, 1, 1, 256, 1));
        x.send(0, 2);
        x.ticks(1);
        check.due("NEXT", 257, x.waits(0, 1));
        x.ticks(5);
        x.babble(0, 2);
        check.due("BORN now", 6, x.frame(0, 0, 0, 2));
        check.due("BORN now, the last, in the other network", 6, x.frame(1, 0, 1, 2));
        check.due("NEXT stays", 257, x.waits(0, 1));
        check.due("no MESSAGE goes", 1, x.waits(0, 0));
        check.due("none is being sent yet", -2, x.port(0, 0, 1));
    }

    // ---- promise 31

    @Sentence(promise = 31, says = "A NETWORK is DOWN (1), or not (0): what it was. NONE: 1; 2.")
    static void promise31_noSuchNetworkThenANumber(Check check) {
        GapLinks x = Check.bus(Boundaries.least());
        check.due(x, "down(0, 1)", 0, x.down(0, 1), 0);
        for (int is = 0; is <= 1; is++) {
            int asked = is;
            Boundaries.refused(check, x, "down(net, " + is + ")", 1, net -> x.down(net, asked), Boundaries.outside(0, 1));
        }
        Boundaries.refused(check, x, "down(0, is)", 2, is -> x.down(0, is), Boundaries.outside(0, 1));
        Boundaries.refused(check, x, "down(1, is)", 2, is -> x.down(1, is), Boundaries.outside(0, 1));
        Boundaries.refused(check, x, "down(2, is), 1 goes ahead of 2", 1, is -> x.down(2, is), Boundaries.outside(0, 1));
        check.due(x, "down(0, 1), it was", 1, x.down(0, 1), 0);
        check.due(x, "down(0, 0), it was", 1, x.down(0, 0), 0);
        check.due(x, "down(0, 0), it wasn't", 0, x.down(0, 0), 0);
        check.due(x, "down(1, 0), it never was", 0, x.down(1, 0), 0);
        GapLinks none = new GapLinks();
        check.refused(none, "down(0, 1) without a bus", none.down(0, 1), 1);
        check.refused(none, "down(0, 2) without a bus", none.down(0, 2), 1);
        Check.read(none, Boundaries.least());
        check.due("a refused call without a bus did nothing", 0, none.down(0, 0));
    }

    @Sentence(promise = 31, says = "a NETWORK is DOWN, or not (neither at first)")
    static void promise31_neitherIsDownAtFirst(Check check) {
        GapLinks x = Check.bus(Boundaries.least());
        check.due("down(0, 1)", 0, x.down(0, 1));
        check.due("down(1, 1)", 0, x.down(1, 1));
        Check.read(x, Boundaries.least());
        check.due("down(0, 0) of a new bus", 0, x.down(0, 0));
        check.due("down(1, 0) of a new bus", 0, x.down(1, 0));
    }

    // ---- promise 32

    @Sentence(promise = 32, says = "ANEW: how many MESSAGES are gone. NONE: 1.")
    static void promise32_noneAllAndNoSuchEnd(Check check) {
        StringBuilder eight = new StringBuilder("bus switches 1 room 1 jitter 0 window 1 skew 1;end a at 0;end b at 0");
        for (char name = 'p'; name < 'x'; name++) {
            eight.append(";link " + name + " from a gap 256 length 1 to b");
        }
        GapLinks x = Check.bus(eight.toString());
        check.due(x, "anew(0), queues empty", 0, x.anew(0), 0);
        for (int l = 0; l < 8; l++) {
            x.send(l, 16);
        }
        check.due(x, "anew(1), an END without links", 0, x.anew(1), 0);
        Boundaries.refused(check, x, "anew(e)", 1, x::anew, Boundaries.outside(0, 1));
        check.due("all wait", 128, x.size(2));
        check.due(x, "anew(0), queues full", 128, x.anew(0), 0);
        check.due("none waits", 0, x.size(2));
        check.due(x, "anew(0) again", 0, x.anew(0), 0);
        check.due(x, "send(7, 16), there is room again", 16, x.send(7, 16), 0);
        GapLinks six = Check.bus(GreatestTest.greatest());
        six.send(5, 3);
        six.send(4, 2);
        check.due(six, "anew(5), the last END", 3, six.anew(5), 0);
        check.due("another END's wait on", 2, six.size(2));
        GapLinks none = new GapLinks();
        check.refused(none, "anew(0) without a bus", none.anew(0), 1);
    }

    @Sentence(promise = 32, says = "an END begins ANEW: QUEUES of its LINKS are empty, their next NUMBER is 0 (NEXT stays)")
    static void promise32_theNextNumberIsZeroAndNextStays(Check check) {
        GapLinks x = Check.bus("bus switches 1 room 12 jitter 0 window 9 skew 99;end a at 0;end b at 0;"
                + "link k from a gap 8 length 1 to b;link m from b gap 8 length 1 to a;link n from a gap 16 length 1 to b");
        for (int l = 0; l < 3; l++) {
            x.send(l, 3);
        }
        x.ticks(10);
        x.anew(0);
        int[] number = {0, 2, 0};
        int[] next = {17, 17, 17};
        int[] waiting = {0, 1, 0};
        int[] born = {2, 2, 1};
        for (int l = 0; l < 3; l++) {
            check.due("waiting of " + l, waiting[l], x.waits(l, 0));
            check.due("NEXT of " + l, next[l], x.waits(l, 1));
            check.due("next NUMBER of " + l, number[l], x.waits(l, 2));
            check.due("BORN of " + l, born[l], x.waits(l, 3));
        }
        x.send(0, 1);
        x.ticks(6);
        check.due("at 16 it still waits for its gap", 1, x.waits(0, 0));
        x.ticks(1);
        check.due("at 17 it goes", 0, x.waits(0, 0));
        check.due("its NUMBER", 0, x.frame(0, 0, 0, 1));
        GapLinks top = Check.bus(Boundaries.one(1, 0, 1, 1, 8, 1));
        for (int k = 0; k < 13; k++) {
            top.babble(0, 20);
        }
        check.due("a NUMBER behind 255", 5, top.waits(0, 2));
        top.anew(0);
        check.due("0 again", 0, top.waits(0, 2));
        check.due("frames stay", 2, top.size(3));
    }

    // ---- promise 33

    @Sentence(promise = 33, says = "n TICKS (1 .. 600): how many FRAMES were TAKEN in them.")
    static void promise33_oneAndSixHundredTicks(Check check) {
        GapLinks x = Boundaries.quick(100, 999);
        x.send(0, 16);
        check.due(x, "ticks(1)", 0, x.ticks(1), 0);
        check.due("TIME", 1, x.about(7));
        check.due(x, "ticks(1)", 0, x.ticks(1), 0);
        check.due(x, "ticks(1), the first", 1, x.ticks(1), 0);
        check.due(x, "ticks(7)", 0, x.ticks(7), 0);
        check.due(x, "ticks(1), the second", 1, x.ticks(1), 0);
        check.due(x, "ticks(600), all others", 14, x.ticks(600), 0);
        check.due("TIME", 611, x.about(7));
        check.due(x, "ticks(600), none", 0, x.ticks(600), 0);
        GapLinks all = Check.bus(GreatestTest.greatest());
        for (int l = 0; l < 8; l++) {
            all.send(l, 1);
        }
        check.due(all, "ticks(600), each of 24 RECEIVERS", 24, all.ticks(600), 0);
    }

    @Sentence(promise = 33, says = "NONE: 1 (no BUS); 2.")
    static void promise33_noBusThenANumber(Check check) {
        GapLinks none = new GapLinks();
        Boundaries.refused(check, none, "ticks(n) without a bus", 1, none::ticks, -1, 0, 1, 600, 601);
        GapLinks x = Check.bus(Boundaries.least());
        x.send(0, 1);
        Boundaries.refused(check, x, "ticks(n)", 2, x::ticks, Boundaries.outside(1, 600));
        check.due("TIME stays", 0, x.about(7));
        check.due("the MESSAGE waits", 1, x.size(2));
    }
}
