/** Boundary cases of promises 39 to 41, what is told, and of TROUBLE (IV): each sentence has a test of its own. */
final class BoundaryToldTest {
    private static final String THREE = "bus switches 1 room 12 jitter 0 window 1 skew 999;end a at 0;end b at 0;end c at 0;"
            + "link k from a gap 8 length 1 to b c;link m from b gap 8 length 1 to c;link n from c gap 8 length 1 to a";

    public static void main(String[] args) throws IllegalAccessException {
        Boundaries.run(BoundaryToldTest.class);
    }

    // ---- promise 39

    @Sentence(promise = 39, says = "NoSuchElementException if there is none such.")
    static void promise39_noneSuchThrows(Check check) {
        GapLinks none = new GapLinks();
        for (int i : new int[] {-1, 0, 1, Integer.MIN_VALUE, Integer.MAX_VALUE}) {
            check.noSilent(none, i);
        }
        GapLinks x = Check.bus(THREE);
        for (int i : Boundaries.outside(0, 2)) {
            check.noSilent(x, i);
        }
        GapLinks eight = Check.bus(GreatestTest.greatest());
        check.due("silent(7), the last", 7, eight.silent(7));
        check.noSilent(eight, 8);
        check.noSilent(eight, -1);
    }

    @Sentence(promise = 39, says = "The i-th LINK, by numbers, of which a RECEIVER has TAKEN none yet.")
    static void promise39_allSomeAndNone(Check check) {
        GapLinks x = Check.bus(THREE);
        for (int i = 0; i < 3; i++) {
            check.due("silent(" + i + ")", i, x.silent(i));
        }
        x.send(1, 1);
        x.ticks(2);
        check.due("silent(1), a tick ahead of its taking", 1, x.silent(1));
        x.ticks(1);
        check.due("silent(0)", 0, x.silent(0));
        check.due("silent(1)", 2, x.silent(1));
        check.noSilent(x, 2);
        x.send(0, 1);
        x.ticks(5);
        check.due("silent(0)", 2, x.silent(0));
        check.noSilent(x, 1);
        x.send(2, 1);
        x.ticks(5);
        check.noSilent(x, 0);
        check.noSilent(x, -1);
    }

    @Sentence(promise = 39, says = "a RECEIVER has TAKEN none yet")
    static void promise39_oneOfSeveralReceiversIsEnough(Check check) {
        GapLinks x = Check.bus("bus switches 2 room 12 jitter 0 window 1 skew 999;end a at 0;end b at 0;end c at 1;"
                + "link k from a gap 8 length 1 to c b");
        x.send(0, 1);
        x.ticks(3);
        check.due("b has TAKEN", 1, x.heard(0, 1, 0));
        check.due("silent(0), c has not", 0, x.silent(0));
        x.ticks(1);
        check.due("c has TAKEN", 1, x.heard(0, 0, 0));
        check.noSilent(x, 0);
    }

    // ---- promise 40

    @Sentence(promise = 40, says = "0 bytes of THE TAPE, 1 RECEIVERS of all LINKS, 2 MESSAGES that wait, 3 FRAMES in all PORTS, 4 1 if"
            + " something is kept.")
    static void promise40_theLeastAndTheGreatest(Check check) {
        GapLinks x = Check.bus(Boundaries.least());
        int[] least = {0, 1, 0, 0, 0};
        for (int what = 0; what < 5; what++) {
            check.due("size(" + what + ") of the least", least[what], x.size(what));
        }
        GapLinks y = Check.bus(GreatestTest.greatest());
        for (int l = 0; l < 8; l++) {
            y.send(l, 16);
            y.babble(l, 20);
        }
        for (int k = 0; k < 45; k++) {
            y.feed(0, 0, 0, 0, 0);
        }
        y.keep();
        int[] greatest = {900, 24, 128, 144, 1};
        for (int what = 0; what < 5; what++) {
            check.due("size(" + what + ") of the greatest", greatest[what], y.size(what));
        }
    }

    @Sentence(promise = 40, says = "NONE for others; 0 for what there isn't.")
    static void promise40_othersAndWithoutABus(Check check) {
        GapLinks none = new GapLinks();
        GapLinks x = Check.bus(Boundaries.least());
        for (int what = 0; what < 5; what++) {
            check.due("size(" + what + ") without a bus", 0, none.size(what));
        }
        for (int what : Boundaries.outside(0, 4)) {
            check.due("size(" + what + ") without a bus", -1, none.size(what));
            check.due("size(" + what + ")", -1, x.size(what));
        }
    }

    // ---- promise 41

    @Sentence(promise = 41, says = "TROUBLE of the latest call that may be refused (those of which a number is told here): 0 it"
            + " wasn't; 1 there is none such; 2 a number; 3 no room; 4 a FAULT; 5 not so.")
    static void promise41_eachOfTheSix(Check check) {
        GapLinks x = Check.bus(Boundaries.one(1, 0, 1, 1, 8, 8).replace("to b", "to b;link m from a gap 256 length 1 to b"));
        check.due("0, bus()", 0, x.trouble());
        x.at(2);
        check.due("1, at(2)", 1, x.trouble());
        x.ticks(601);
        check.due("2, ticks(601)", 2, x.trouble());
        x.send(0, 16);
        check.due("0, send(0, 16)", 0, x.trouble());
        x.send(0, 1);
        check.due("3, send(0, 1)", 3, x.trouble());
        Check.read(x, "bus");
        check.due("4, bus()", 4, x.trouble());
        x.delay(0, false);
        check.due("5, delay(0)", 5, x.trouble());
        x.at(0);
        check.due("0, at(0)", 0, x.trouble());
    }

    @Sentence(promise = 41, says = "(those of which a number is told here)")
    static void promise41_callsOfWhichNoNumberIsToldLeaveIt(Check check) {
        GapLinks x = Check.bus(THREE);
        for (int k = 0; k < 45; k++) {
            x.feed(0, 0, 0, 0, 0);
        }
        for (int why = 0; why <= 1; why++) {
            x.at(why == 0 ? 0 : 9);
            check.due("feed() that is refused", -1, x.feed(0, 0, 0, 0, 0));
            check.due("behind feed()", why, x.trouble());
            x.size(0);
            check.due("behind size(0)", why, x.trouble());
            x.size(9);
            check.due("behind size(9)", why, x.trouble());
            x.silent(0);
            check.due("behind silent(0)", why, x.trouble());
            check.noSilent(x, 9);
            check.due("behind silent(9), thrown", why, x.trouble());
            x.fault();
            check.due("behind fault()", why, x.trouble());
            x.where();
            check.due("behind where()", why, x.trouble());
            x.trouble();
            check.due("behind trouble()", why, x.trouble());
        }
    }

    @Sentence(promise = 41, says = "0 it wasn't")
    static void promise41_everyCallThatIsNotRefusedIsNoTrouble(Check check) {
        GapLinks x = Check.bus(THREE);
        for (int call = 0; call < 33; call++) {
            x.at(9);
            check.due("trouble", 1, x.trouble());
            check.due("call " + call + " is not refused", true, unrefused(x, call) != -1);
            check.due("trouble behind call " + call, 0, x.trouble());
        }
        x.at(9);
        Check.read(x, THREE);
        check.due("trouble behind bus()", 0, x.trouble());
    }

    /** One of the calls that may be refused, with numbers by which it isn't. */
    private static long unrefused(GapLinks x, int call) {
        switch (call) {
            case 0: return x.about(7);
            case 1: return x.at(0);
            case 2: return x.link(0, 0);
            case 3: return x.receiver(0, 0);
            case 4: return x.named(Check.name("a"));
            case 5: return x.way(0, 0, 0);
            case 6: return x.waits(0, 0);
            case 7: return x.credit(0, 0);
            case 8: return x.port(0, 0, 0);
            case 9: return x.lost(0, 0);
            case 10: return x.policed(0, 0);
            case 11: return x.heard(0, 0, 0);
            case 12: return x.seen(0, 0, 0);
            case 13: return x.load(0, false);
            case 14: return x.delay(0, false);
            case 15: return x.burst(0, 0, 1, false);
            case 16: return x.bound(0, 0, false);
            case 17: return x.keeps(0, 0);
            case 18: return x.fullest();
            case 19: return x.leastGap(0);
            case 20: return x.through(0);
            case 21: return x.send(0, 1);
            case 22: return x.babble(0, 1);
            case 23: return x.frame(0, 0, 0, 0);
            case 24: return x.down(0, 0);
            case 25: return x.ticks(9);
            case 26: return x.taken(0, 0, 0);
            case 27: return x.willHear(1, 0, 0, 0);
            case 28: return x.willLose(1, 0, 0);
            case 29: return x.quiet();
            case 30: return x.anew(0);
            case 31: return x.keep() ? 1 : -1;
            default: return x.back() ? 1 : -1;
        }
    }

    @Sentence(promise = 41, says = "Refusals of a call are met in the order in which they are told.")
    static void promise41_ofSeveralRefusalsTheFirstThatIsTold(Check check) {
        GapLinks x = Check.bus(Boundaries.one(1, 0, 1, 1, 8, 8).replace("to b", "to b;link m from a gap 256 length 1 to b"));
        x.send(0, 16);
        check.refused(x, "send(9, 99), full", x.send(9, 99), 1);
        check.refused(x, "send(0, 99), full", x.send(0, 99), 2);
        check.refused(x, "send(0, 16), full", x.send(0, 16), 3);
        check.refused(x, "babble(9, 99)", x.babble(9, 99), 1);
        check.refused(x, "down(9, 9)", x.down(9, 9), 1);
        check.refused(x, "willHear(0, 9, 0, 0)", x.willHear(0, 9, 0, 0), 1);
        check.refused(x, "willHear(0, 0, 9, 0)", x.willHear(0, 0, 9, 0), 1);
        check.refused(x, "willHear(0, 0, 0, 9)", x.willHear(0, 0, 0, 9), 1);
        check.refused(x, "willLose(0, 9, 0)", x.willLose(0, 9, 0), 1);
        check.refused(x, "willLose(0, 0, 9)", x.willLose(0, 0, 9), 1);
        check.refused(x, "delay(9), a LOAD is above 1", x.delay(9, false), 1);
        check.refused(x, "burst(0, 0, 9), a LOAD is above 1", x.burst(0, 0, 9, false), 1);
        check.refused(x, "bound(0, 9), a LOAD is above 1", x.bound(0, 9, false), 1);
        check.refused(x, "keeps(9, 0), a LOAD is above 1", x.keeps(9, 0), 1);
        Check.feed(x, "bus switches 9");
        check.refused(x, "bus(99), the tape has a FAULT", x.bus(99), 2);
        GapLinks none = new GapLinks();
        check.refused(none, "ticks(0) without a bus", none.ticks(0), 1);
    }

    @Sentence(promise = 41, says = "TROUBLE.")
    static void promise41_aRefusedCallChangesNothingElse(Check check) {
        GapLinks x = Check.bus(Boundaries.one(3, 0, 1, 99, 8, 2));
        x.babble(0, 3);
        x.send(0, 16);
        x.ticks(6);
        x.send(0, 1);
        String before = Boundaries.all(x);
        x.bus(1);
        x.bus(-1);
        x.send(0, 16);
        x.send(0, 0);
        x.send(1, 1);
        x.babble(0, 0);
        x.babble(0, 21);
        x.babble(1, 1);
        x.down(0, 2);
        x.down(2, 1);
        x.anew(2);
        x.ticks(0);
        x.ticks(601);
        x.back();
        x.willHear(0, 0, 0, 0);
        x.willLose(601, 0, 0);
        check.due("trouble()", 2, x.trouble());
        check.due("all is as it was", true, before.equals(Boundaries.all(x)));
        check.due("neither network is down", 0, x.down(0, 0) + x.down(1, 0));
    }
}
