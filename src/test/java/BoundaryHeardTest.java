/** Boundary cases of promises 18 to 20, what is heard (II): each sentence has a test of its own. */
final class BoundaryHeardTest {
    /** k from a, m from c, both to b; a frame of m is 40 ticks in port 7, and one of k behind it waits for it. */
    private static final String SLOW = "bus switches 1 room 12 jitter 400 window 5 skew 999;end a at 0;end b at 0;end c at 0;"
            + "link k from a gap 8 length 1 to b;link m from c gap 64 length 40 to b";

    public static void main(String[] args) throws IllegalAccessException {
        Boundaries.run(BoundaryHeardTest.class);
    }

    /** What receiver 0 of link 0 has heard: how many were taken, refused, doubles, and the latest number taken. */
    private static void heard(Check check, GapLinks x, String when, int... due) {
        for (int what = 0; what < due.length; what++) {
            check.due(x, when + ": heard(0, 0, " + what + ")", due[what], x.heard(0, 0, what), 0);
        }
    }

    // ---- promise 18

    @Sentence(promise = 18, says = "Of a RECEIVER how many FRAMES were 0 TAKEN, 1 REFUSED, 2 DOUBLES; of the latest TAKEN 3 the"
            + " NUMBER, 4 the TIME, 5 the NETWORK (-2 none yet); 6 the greatest LATE (-2), 7 the least (-2). NONE: 1.")
    static void promise18_noSuchLinkReceiverOrWhat(Check check) {
        GapLinks x = Check.bus(GreatestTest.greatest());
        check.due(x, "heard(7, 2, 7)", -2, x.heard(7, 2, 7), 0);
        Boundaries.refused(check, x, "heard(l, 0, 0)", 1, l -> x.heard(l, 0, 0), Boundaries.outside(0, 7));
        Boundaries.refused(check, x, "heard(0, i, 0)", 1, i -> x.heard(0, i, 0), Boundaries.outside(0, 2));
        Boundaries.refused(check, x, "heard(7, i, 0)", 1, i -> x.heard(7, i, 0), Boundaries.outside(0, 2));
        Boundaries.refused(check, x, "heard(0, 0, what)", 1, what -> x.heard(0, 0, what), Boundaries.outside(0, 7));
        GapLinks one = Check.bus(Boundaries.least());
        check.refused(one, "heard(0, 1, 0) of one receiver", one.heard(0, 1, 0), 1);
        GapLinks none = new GapLinks();
        check.refused(none, "heard(0, 0, 0) without a bus", none.heard(0, 0, 0), 1);
    }

    @Sentence(promise = 18, says = "(-2 none yet)")
    static void promise18_nothingIsTakenYetThenTheFirst(Check check) {
        GapLinks x = Boundaries.quick(1, 1);
        heard(check, x, "none", 0, 0, 0, -2, -2, -2, -2, -2);
        x.send(0, 1);
        x.ticks(2);
        heard(check, x, "a tick ahead of the first", 0, 0, 0, -2, -2, -2, -2, -2);
        x.ticks(1);
        heard(check, x, "the first", 1, 0, 1, 0, 3, 0, 2, 2);
    }

    @Sentence(promise = 18, says = "INTEGRITY, of this LINK, END and NETWORK: if it has SEEN none")
    static void promise18_theFirstThatANetworkHearsIsNotRefused(Check check) {
        GapLinks x = Boundaries.quick(100, 999);
        x.down(1, 1);
        Boundaries.sendAndHear(x, 7);
        x.down(1, 0);
        Boundaries.sendAndHear(x, 1);
        heard(check, x, "7 is the first of network 1", 8, 0, 1, 7);
        check.due("SEEN", 7, x.seen(0, 0, 1));
    }

    @Sentence(promise = 18, says = "or the NUMBER is 0")
    static void promise18_zeroIsNeverRefused(Check check) {
        GapLinks x = Boundaries.quick(100, 999);
        Boundaries.sendAndHear(x, 6);
        x.anew(0);
        Boundaries.sendAndHear(x, 1);
        heard(check, x, "0 behind 5", 7, 0, 7, 0);
        x.anew(0);
        Boundaries.sendAndHear(x, 1);
        heard(check, x, "0 behind 0", 7, 0, 9, 0);
        x.anew(0);
        Boundaries.loseInBoth(x, 3);
        Boundaries.sendAndHear(x, 1);
        heard(check, x, "3 behind 0", 7, 2, 9, 0);
    }

    @Sentence(promise = 18, says = "or the next one behind the one SEEN, or the one behind that")
    static void promise18_oneAndTwoAheadAreNotRefusedThreeAre(Check check) {
        for (int lost = 0; lost <= 3; lost++) {
            for (int first : new int[] {1, 2, 10}) {
                GapLinks x = Boundaries.quick(100, 999);
                Boundaries.sendAndHear(x, first);
                x.down(1, 1);
                Boundaries.sendAndHear(x, lost);
                x.down(1, 0);
                Boundaries.sendAndHear(x, 1);
                String when = lost + 1 + " ahead of " + (first - 1);
                check.due(when + ", refused", lost < 2 ? 0 : 1, x.heard(0, 0, 1));
                check.due(when + ", doubles", lost < 2 ? first + 1 : first, x.heard(0, 0, 2));
            }
        }
    }

    @Sentence(promise = 18, says = "else it is REFUSED")
    static void promise18_theSameNumberAndTheOneAheadAreRefused(Check check) {
        for (int heard = 2; heard <= 3; heard++) {
            // room 1: all but the first of many that babble are lost at once, and their numbers are gone
            GapLinks x = Check.bus(Boundaries.one(1, 0, 100, 1, 8, 1));
            Boundaries.sendAndHear(x, heard);
            x.down(0, 1);
            x.down(1, 1);
            for (int left = 256 - heard; left > 0; left -= 20) {
                x.babble(0, Math.min(20, left));
            }
            check.due("the next number", 1, x.waits(0, 2));
            x.ticks(8);
            x.down(0, 0);
            x.down(1, 0);
            Boundaries.sendAndHear(x, 1);
            heard(check, x, "1 behind " + (heard - 1), heard, 2, heard, heard - 1);
            check.due("SEEN", 1, x.seen(0, 0, 0));
        }
    }

    @Sentence(promise = 18, says = "0, 1 and on to 255, then 1 again")
    static void promise18_oneAndTwoAheadOverTheTop(Check check) {
        for (int seen = 254; seen <= 255; seen++) {
            for (int lost = 0; lost <= 2; lost++) {
                GapLinks x = Boundaries.quick(100, 999);
                Boundaries.sendAndHear(x, seen + 1);
                check.due("SEEN", seen, x.seen(0, 0, 1));
                Boundaries.loseInBoth(x, lost);
                Boundaries.sendAndHear(x, 1);
                int number = seen + 1 + lost > 255 ? seen + 1 + lost - 255 : seen + 1 + lost;
                check.due("the number", number, x.seen(0, 0, 1));
                String when = number + " behind " + seen;
                heard(check, x, when, lost < 2 ? seen + 2 : seen + 1, lost < 2 ? 0 : 2, lost < 2 ? seen + 2 : seen + 1);
            }
        }
    }

    @Sentence(promise = 18, says = "it is TAKEN, if none was")
    static void promise18_theFirstOfAllIsTakenWhateverItsNumber(Check check) {
        GapLinks x = Boundaries.quick(1, 999);
        Boundaries.loseInBoth(x, 5);
        Boundaries.sendAndHear(x, 1);
        heard(check, x, "5", 1, 0, 1, 5);
        GapLinks top = Boundaries.quick(1, 999);
        Boundaries.loseInBoth(top, 255);
        Boundaries.sendAndHear(top, 1);
        heard(check, top, "255", 1, 0, 1, 255);
    }

    @Sentence(promise = 18, says = "or the latest was TAKEN more than SKEW ago")
    static void promise18_justSkewAgoAndATickMore(Check check) {
        for (int skew : new int[] {20, 21, 999}) {
            for (int more = 0; more <= 1; more++) {
                GapLinks x = Boundaries.quick(1, skew);
                Boundaries.sendAndHear(x, 1);
                check.due("0 is TAKEN at 3", 3, x.heard(0, 0, 4));
                Boundaries.loseInBoth(x, 1);
                // 2 is out of a window of 1; it is born at skew + 1, or a tick later, and heard 2 behind that
                int left = skew + more - x.about(7);
                x.ticks(Math.max(1, left / 2));
                x.ticks(skew + more - x.about(7));
                x.send(0, 1);
                x.ticks(3);
                heard(check, x, "2 comes " + (skew + more) + " behind 0, skew " + skew, 1 + more, 0, 3 - more, 2 * more);
            }
        }
    }

    @Sentence(promise = 18, says = "SKEW, 1 .. 999")
    static void promise18_theLeastSkew(Check check) {
        for (int skew = 1; skew <= 2; skew++) {
            GapLinks x = Check.bus(Boundaries.one(1, 400, 1, skew, 8, 1));
            x.babble(0, 1);
            x.ticks(1);
            check.due("1 is LOST at a full port", 2, x.babble(0, 1));
            x.ticks(1);
            x.babble(0, 1);
            x.ticks(3);
            heard(check, x, "2 comes 2 behind 0, skew " + skew, skew == 1 ? 2 : 1, 0, skew == 1 ? 2 : 3);
        }
    }

    @Sentence(promise = 18, says = "more than SKEW ago")
    static void promise18_theSameFrameOfTheOtherNetworkMoreThanSkewBehindIsTakenAgain(Check check) {
        for (int skew : new int[] {37, 38}) {
            GapLinks x = Check.bus(SLOW.replace("skew 999", "skew " + skew));
            oneNetworkIsSlow(x);
            x.babble(0, 1);
            // by network 0 it is at b at 44, by network 1 at 82
            x.ticks(60);
            heard(check, x, "0 again 38 behind, skew " + skew, skew == 37 ? 2 : 1, 0, skew == 37 ? 0 : 1, 0,
                    skew == 37 ? 82 : 44, skew == 37 ? 1 : 0);
        }
    }

    /** A frame of m is lost in network 0, 41 ticks from now, and is in port 7 of network 1 for the next 40. */
    private static void oneNetworkIsSlow(GapLinks x) {
        x.babble(1, 1);
        x.ticks(40);
        x.down(0, 1);
        x.ticks(1);
        x.down(0, 0);
    }

    @Sentence(promise = 18, says = "or its NUMBER is 0 and the latest one's isn't")
    static void promise18_zeroIsTakenBehindAnyOtherButNotBehindZero(Check check) {
        GapLinks x = Boundaries.quick(1, 999);
        Boundaries.sendAndHear(x, 2);
        x.anew(0);
        Boundaries.sendAndHear(x, 1);
        heard(check, x, "0 behind 1", 3, 0, 3, 0);
        x.anew(0);
        Boundaries.sendAndHear(x, 1);
        heard(check, x, "0 behind 0", 3, 0, 5, 0);
        GapLinks top = Boundaries.quick(1, 999);
        Boundaries.sendAndHear(top, 256);
        top.anew(0);
        Boundaries.sendAndHear(top, 1);
        heard(check, top, "0 behind 255", 257, 0, 257, 0);
    }

    @Sentence(promise = 18, says = "or it is 1 .. WINDOW NUMBERS ahead of the latest TAKEN")
    static void promise18_justInTheWindowAndJustBeyond(Check check) {
        // 2 ahead may be judged at once; more ahead only behind one that is REFUSED
        for (int window = 1; window <= 3; window++) {
            GapLinks x = Boundaries.quick(window, 999);
            Boundaries.sendAndHear(x, 4);
            heard(check, x, "1 ahead, window " + window, 4, 0, 4, 3);
            Boundaries.loseInBoth(x, 1);
            Boundaries.sendAndHear(x, 1);
            boolean in = window >= 2;
            heard(check, x, "2 ahead, window " + window, in ? 5 : 4, 0, in ? 5 : 6, in ? 5 : 3);
        }
        for (int window = 99; window <= 100; window++) {
            for (int ahead = 99; ahead <= 101; ahead++) {
                GapLinks x = Boundaries.quick(window, 999);
                Boundaries.sendAndHear(x, 1);
                Boundaries.loseInBoth(x, ahead - 2);
                Boundaries.sendAndHear(x, 2);
                boolean in = ahead <= window;
                heard(check, x, ahead + " ahead, window " + window, in ? 2 : 1, 2, in ? 2 : 3, in ? ahead : 0);
            }
        }
    }

    @Sentence(promise = 18, says = "(0 aside: to 0 none is ahead)")
    static void promise18_theWindowGoesOverTheTopWithoutZero(Check check) {
        for (int latest = 254; latest <= 255; latest++) {
            for (int window = 1; window <= 3; window++) {
                for (int lost = 0; lost <= 1; lost++) {
                    GapLinks x = Boundaries.quick(window, 999);
                    Boundaries.sendAndHear(x, latest + 1);
                    Boundaries.loseInBoth(x, lost);
                    Boundaries.sendAndHear(x, 1);
                    String when = lost + 1 + " ahead of " + latest + ", window " + window;
                    check.due(when, lost + 1 <= window ? latest + 2 : latest + 1, x.heard(0, 0, 0));
                    check.due(when + ", none is REFUSED", 0, x.heard(0, 0, 1));
                }
            }
        }
        for (int window = 99; window <= 100; window++) {
            GapLinks x = Boundaries.quick(window, 999);
            Boundaries.sendAndHear(x, 201);
            Boundaries.loseInBoth(x, 98);
            Boundaries.sendAndHear(x, 2);
            heard(check, x, "45 is 100 ahead of 200, window " + window, window == 100 ? 202 : 201, 2,
                    window == 100 ? 202 : 203, window == 100 ? 45 : 200);
        }
    }

    @Sentence(promise = 18, says = "else it is a DOUBLE")
    static void promise18_theSameAndOneBehindAreDoubles(Check check) {
        GapLinks x = Check.bus(SLOW);
        x.babble(0, 1);
        x.ticks(10);
        heard(check, x, "0 twice", 1, 0, 1, 0);
        oneNetworkIsSlow(x);
        x.babble(0, 2);
        x.ticks(10);
        heard(check, x, "1 and 2 by network 0", 3, 0, 1, 2);
        x.ticks(60);
        heard(check, x, "1 and 2 by network 1, behind 2", 3, 0, 3, 2);
    }

    @Sentence(promise = 18, says = "LATE: TIME less BORN, when it is TAKEN.")
    static void promise18_theGreatestAndTheLeastLateOfThoseTaken(Check check) {
        GapLinks x = Check.bus(SLOW);
        check.due("none: the greatest", -2, x.heard(0, 0, 6));
        check.due("none: the least", -2, x.heard(0, 0, 7));
        x.babble(0, 2);
        // born at 0: sent at 1 and 2, at b at 3 and 4
        x.ticks(3);
        check.due("one: the greatest", 3, x.heard(0, 0, 6));
        check.due("one: the least", 3, x.heard(0, 0, 7));
        x.ticks(1);
        check.due("two: the greatest", 4, x.heard(0, 0, 6));
        check.due("two: the least", 3, x.heard(0, 0, 7));
        x.ticks(6);
        x.send(0, 1);
        x.ticks(10);
        check.due("three: the greatest", 4, x.heard(0, 0, 6));
        check.due("three: the least", 2, x.heard(0, 0, 7));
        oneNetworkIsSlow(x);
        x.babble(0, 1);
        x.ticks(60);
        check.due("a DOUBLE that came 41 behind", 4, x.heard(0, 0, 2));
        check.due("is not LATE", 4, x.heard(0, 0, 6));
    }

    // ---- promise 19

    @Sentence(promise = 19, says = "SEEN (-2 none). NONE: 1.")
    static void promise19_noneSeenAndNoSuchReceiverOrNetwork(Check check) {
        GapLinks x = Check.bus(GreatestTest.greatest());
        for (int net = 0; net < 2; net++) {
            int asked = net;
            check.due(x, "seen(0, 0, " + net + ")", -2, x.seen(0, 0, net), 0);
            check.due(x, "seen(7, 2, " + net + ")", -2, x.seen(7, 2, net), 0);
            Boundaries.refused(check, x, "seen(l, 0, " + net + ")", 1, l -> x.seen(l, 0, asked), Boundaries.outside(0, 7));
            Boundaries.refused(check, x, "seen(7, i, " + net + ")", 1, i -> x.seen(7, i, asked), Boundaries.outside(0, 2));
        }
        Boundaries.refused(check, x, "seen(0, 0, net)", 1, net -> x.seen(0, 0, net), Boundaries.outside(0, 1));
        GapLinks none = new GapLinks();
        check.refused(none, "seen(0, 0, 0) without a bus", none.seen(0, 0, 0), 1);
    }

    @Sentence(promise = 19, says = "SEEN is this NUMBER (whatever comes of it)")
    static void promise19_whatIsRefusedOrADoubleIsSeenAllTheSame(Check check) {
        GapLinks x = Boundaries.quick(100, 999);
        Boundaries.sendAndHear(x, 1);
        check.due("0, TAKEN", 0, x.seen(0, 0, 0));
        check.due("0, a DOUBLE", 0, x.seen(0, 0, 1));
        x.down(1, 1);
        Boundaries.sendAndHear(x, 4);
        check.due("4 in network 0", 4, x.seen(0, 0, 0));
        check.due("still 0 in network 1", 0, x.seen(0, 0, 1));
        x.down(1, 0);
        Boundaries.sendAndHear(x, 1);
        check.due("5, REFUSED", 5, x.seen(0, 0, 1));
        heard(check, x, "5", 6, 1, 1, 5);
        Boundaries.sendAndHear(x, 1);
        heard(check, x, "6, the next one behind it", 7, 1, 2, 6);
        x.anew(0);
        Boundaries.sendAndHear(x, 1);
        check.due("0 again", 0, x.seen(0, 0, 1));
    }

    // ---- promise 20

    @Sentence(promise = 20, says = "The NUMBER of the k-th of the latest ten TAKEN, the latest first. NONE: 1 (k, too).")
    static void promise20_fewerThanTenJustTenAndMore(Check check) {
        GapLinks x = Boundaries.quick(1, 999);
        for (int n = 0; n <= 12; n++) {
            for (int k = 0; k < n && k < 10; k++) {
                check.due(x, n + " TAKEN: taken(0, 0, " + k + ")", n - 1 - k, x.taken(0, 0, k), 0);
            }
            Boundaries.refused(check, x, n + " TAKEN: taken(0, 0, k)", 1, k -> x.taken(0, 0, k),
                    Boundaries.outside(0, Math.min(n, 10) - 1));
            Boundaries.sendAndHear(x, 1);
        }
        Boundaries.refused(check, x, "taken(l, 0, 0)", 1, l -> x.taken(l, 0, 0), Boundaries.outside(0, 0));
        Boundaries.refused(check, x, "taken(0, i, 0)", 1, i -> x.taken(0, i, 0), Boundaries.outside(0, 0));
        GapLinks none = new GapLinks();
        check.refused(none, "taken(0, 0, 0) without a bus", none.taken(0, 0, 0), 1);
    }

    @Sentence(promise = 20, says = "the latest ten TAKEN, the latest first")
    static void promise20_numbersOverTheTopAndFromZeroAgain(Check check) {
        GapLinks x = Boundaries.quick(2, 999);
        Boundaries.sendAndHear(x, 255);
        Boundaries.loseInBoth(x, 1);
        Boundaries.sendAndHear(x, 2);
        x.anew(0);
        Boundaries.sendAndHear(x, 3);
        // 255 was LOST: 0 .. 254, 1, 2, and 0, 1, 2 behind ANEW
        int[] due = {2, 1, 0, 2, 1, 254, 253, 252, 251, 250};
        for (int k = 0; k < 10; k++) {
            check.due(x, "taken(0, 0, " + k + ")", due[k], x.taken(0, 0, k), 0);
        }
        check.refused(x, "taken(0, 0, 10)", x.taken(0, 0, 10), 1);
    }

    @Sentence(promise = 20, says = "The NUMBER of the k-th")
    static void promise20_eachReceiverOfEachLinkHasTenOfItsOwn(Check check) {
        GapLinks x = Check.bus("bus switches 2 room 12 jitter 0 window 1 skew 999;end a at 0;end b at 0;end c at 1;"
                + "link k from a gap 8 length 1 to b c;link m from c gap 8 length 1 to b");
        x.send(0, 13);
        x.send(1, 11);
        x.ticks(8 * 13);
        x.send(0, 1);
        x.ticks(2);
        x.down(0, 1);
        x.down(1, 1);
        x.ticks(6);
        // the fourteenth of k was behind its first switch by then: b hears it, the further switch loses it
        for (int k = 0; k < 10; k++) {
            check.due("taken(0, 0, " + k + ")", 13 - k, x.taken(0, 0, k));
            check.due("taken(0, 1, " + k + ")", 12 - k, x.taken(0, 1, k));
            check.due("taken(1, 0, " + k + ")", 10 - k, x.taken(1, 0, k));
        }
    }
}
