/** Boundary cases of promises 1 to 5 and of the text that they use (I): each sentence has a test of its own. */
final class BoundaryBusTest {
    private static final String BUS = "bus switches 2 room 3 jitter 0 window 1 skew 1";
    private static final String ENDS = BUS + ";end a at 0;end b at 1;end c at 1;end d at 0;end e at 0";
    private static final String TO = ENDS + ";link k from a gap 8 length 8 to ";
    private static final String GOOD = TO + "b";

    public static void main(String[] args) throws IllegalAccessException {
        Boundaries.run(BoundaryBusTest.class);
    }

    // ---- promise 1

    @Sentence(promise = 1, says = "No BUS.")
    static void promise1_aNewObjectHasNoBus(Check check) {
        GapLinks x = new GapLinks();
        for (int what = 0; what < 5; what++) {
            check.due("size(" + what + ")", 0, x.size(what));
        }
        check.due("fault()", 0, x.fault());
        check.due("where()", -1, x.where());
        check.due("trouble()", 0, x.trouble());
        for (int what = 0; what < 8; what++) {
            check.refused(x, "about(" + what + ")", x.about(what), 1);
        }
        check.refused(x, "port(0, 0, 0)", x.port(0, 0, 0), 1);
        check.refused(x, "lost(0, 0)", x.lost(0, 0), 1);
        check.refused(x, "fullest()", x.fullest(), 1);
        check.refused(x, "ticks(1)", x.ticks(1), 1);
        check.refused(x, "quiet()", x.quiet(), 1);
        check.noSilent(x, 0);
    }

    // ---- promise 2

    @Sentence(promise = 2, says = "Twenty bytes come behind THE TAPE, of each number the highest first: how many it has")
    static void promise2_twentyBytesTheHighestFirst(Check check) {
        GapLinks x = new GapLinks();
        // "   b" "us  " and blanks: a word that goes on from one number to the next
        check.due("feed, onto nothing", 20, x.feed(0x20202062, 0x75732020, 0x20202020, 0x20202020, 0x20202020));
        // "switches 4": the second twenty stand behind the first
        check.due("feed, onto twenty", 40, x.feed(0x73776974, 0x63686573, 0x20342020, 0x20202020, 0x20202020));
        check.refused(x, "bus(40)", x.bus(40), 4);
        check.due("fault(), switches 4", 4, x.fault());
        check.due("where() of the 4", 29, x.where());
    }

    @Sentence(promise = 2, says = "of each number the highest first")
    static void promise2_aNumberBelowZeroIsFourBytesTooAndNoneSpoilsAnother(Check check) {
        GapLinks x = new GapLinks();
        // 32 32 255 32: the byte 255 is at 2
        x.feed(0x2020ff20, 0x20202020, 0x20202020, 0x20202020, 0x20202020);
        x.bus(20);
        check.due("where() of the byte 255", 2, x.where());
        x.feed(0x20202020, 0x20202020, 0x20202020, 0x20202020, 0x202020ff);
        x.bus(20);
        check.due("where() of the last of twenty", 19, x.where());
        x.feed(0x80202020, 0x20202020, 0x20202020, 0x20202020, 0x20202020);
        x.bus(20);
        check.due("where() of the first of a number below 0", 0, x.where());
    }

    @Sentence(promise = 2, says = "NONE, and none comes, if there would be more than 900")
    static void promise2_nineHundredAreTakenAndNoneMore(Check check) {
        String text = " ".repeat(900 - GOOD.length()) + GOOD;
        GapLinks x = new GapLinks();
        check.due("the 45th feed", 900, Check.feed(x, text));
        check.due("the 46th feed", -1, x.feed(-1, -1, -1, -1, -1));
        check.due("size(0)", 900, x.size(0));
        check.due("the 47th feed", -1, x.feed(0x20202020, 0x20202020, 0x20202020, 0x20202020, 0x20202020));
        check.due("the 900 are as they were", 1, x.bus(900));
    }

    // ---- promise 3

    @Sentence(promise = 3, says = "The first n bytes of THE TAPE (it is empty then) are the BUS from now on")
    static void promise3_noneSomeOrAllOfTheTape(Check check) {
        GapLinks x = new GapLinks();
        check.refused(x, "bus(0) of an empty tape", x.bus(0), 4);
        check.due("fault() of no byte", 1, x.fault());
        check.due("where() of no byte", 0, x.where());
        Check.feed(x, GOOD);
        check.refused(x, "bus(0) of a tape with a bus on it", x.bus(0), 4);
        check.due("where() of no byte", 0, x.where());
        Check.feed(x, GOOD + "x");
        check.due("the byte behind n is no part of it", 1, x.bus(GOOD.length()));
        Check.feed(x, GOOD + "x");
        check.refused(x, "one byte more is", x.bus(GOOD.length() + 1), 4);
        check.due("fault()", 2, x.fault());
        Check.feed(x, "bus switches 25");
        check.refused(x, "nor is the digit behind n", x.bus(14), 4);
        check.due("fault(), no end yet", 1, x.fault());
        check.due("where() is n", 14, x.where());
        Check.feed(x, GOOD);
        check.due("all of the tape", 1, x.bus(x.size(0)));
    }

    @Sentence(promise = 3, says = "THE TAPE has 900 bytes")
    static void promise3_aFullTapeThatEndsInEachSortOfToken(Check check) {
        GapLinks x = new GapLinks();
        Check.feed(x, " ".repeat(900 - GOOD.length()) + GOOD);
        check.due(x, "a bus to the last byte", 1, x.bus(900), 0);
        for (String last : new String[] {"bus", "bus switches 2", BUS + ";", "  "}) {
            Check.feed(x, " ".repeat(900 - last.length()) + last);
            check.refused(x, "900 bytes that end in " + last, x.bus(900), 4);
            check.due("fault()", 1, x.fault());
            check.due("where(), the end", 900, x.where());
        }
        Check.feed(x, " ".repeat(900 - BUS.length()) + BUS);
        check.refused(x, "a bus without a link", x.bus(900), 4);
        check.due("fault()", 6, x.fault());
        check.due("where(), the end", 900, x.where());
    }

    @Sentence(promise = 3, says = "are the BUS from now on")
    static void promise3_nothingOfTheBusesAheadIsLeft(Check check) {
        String[] texts = {GreatestTest.greatest(), Boundaries.least(), GOOD, GreatestTest.greatest(), GOOD, TO + "d c",
            Boundaries.least(), Boundaries.least()};
        GapLinks x = new GapLinks();
        for (String text : texts) {
            GapLinks fresh = Check.bus(text);
            check.due("bus()", fresh.about(6), Check.read(x, text));
            for (int p = 0; p < 16; p++) {
                check.due("through(" + p + ")", fresh.through(p), x.through(p));
            }
            for (int k = 0; k < 5; k++) {
                check.due("way(0, 0, " + k + ")", fresh.way(0, 0, k), x.way(0, 0, k));
            }
            fresh.send(0, 1);
            x.send(0, 1);
            check.due("ticks(99)", fresh.ticks(99), x.ticks(99));
            for (int p = 6; p < 16; p++) {
                check.due("port(0, " + p + ", 3)", fresh.port(0, p, 3), x.port(0, p, 3));
            }
            check.due("size(1)", fresh.size(1), x.size(1));
        }
    }

    @Sentence(promise = 3, says = "(it is empty then)")
    static void promise3_theTapeIsEmptyBehindABusAndBehindAFault(Check check) {
        GapLinks x = new GapLinks();
        Check.feed(x, GOOD + " and bytes that are left over");
        check.due("bus()", 1, x.bus(GOOD.length()));
        check.due("size(0) behind a bus", 0, x.size(0));
        check.refused(x, "bus(1) of the empty tape", x.bus(1), 2);
        Check.feed(x, GOOD);
        check.refused(x, "a part that is no bus", x.bus(7), 4);
        check.due("size(0) behind a fault", 0, x.size(0));
        check.refused(x, "bus(1) of the empty tape", x.bus(1), 2);
        check.due("feed, from its beginning", 20, x.feed(0, 0, 0, 0, 0));
        check.refused(x, "bus(21)", x.bus(21), 2);
        check.refused(x, "bus(20)", x.bus(20), 4);
        check.due("where() is at the new bytes", 0, x.where());
    }

    @Sentence(promise = 3, says = "(TIME 0, PORTS and QUEUES empty, nothing kept)")
    static void promise3_allBeginsAgainWithABus(Check check) {
        String text = Boundaries.one(2, 0, 1, 60, 8, 2);
        GapLinks x = Check.bus(text);
        x.babble(0, 3);
        x.send(0, 3);
        x.ticks(40);
        x.down(0, 1);
        x.down(1, 1);
        x.send(0, 16);
        x.ticks(20);
        x.babble(0, 2);
        x.keep();
        check.due("bus() again", 1, Check.read(x, text));
        check.due("down(0, 0)", 0, x.down(0, 0));
        check.due("down(1, 0)", 0, x.down(1, 0));
        check.due("about(7)", 0, x.about(7));
        check.due("size(2)", 0, x.size(2));
        check.due("size(3)", 0, x.size(3));
        check.due("size(4)", 0, x.size(4));
        check.due("back()", false, x.back());
        check.due("all is that of a new object", true, Boundaries.all(Check.bus(text)).equals(Boundaries.all(x)));
        x.send(0, 1);
        x.ticks(1);
        check.due("NEXT is at first 0", 9, x.waits(0, 1));
        check.due("the first number", 0, x.frame(0, 0, 0, 1));
    }

    @Sentence(promise = 3, says = "how many LINKS")
    static void promise3_oneLinkAtLeastEightAtMost(Check check) {
        check.fine(Boundaries.least(), 1);
        check.fine(GreatestTest.greatest(), 8);
    }

    @Sentence(promise = 3, says = "NONE: 2 (n; THE TAPE stays)")
    static void promise3_nTooSmallOrTooLargeIsRefusedBy2(Check check) {
        GapLinks x = Check.bus(Boundaries.least());
        x.ticks(5);
        Check.feed(x, GOOD);
        int fed = x.size(0);
        Boundaries.refused(check, x, "bus(n)", 2, x::bus, Boundaries.outside(0, fed));
        check.due("size(0), the tape stays", fed, x.size(0));
        check.due("about(7), the bus stays", 5, x.about(7));
        check.due("fault() is none of it", 0, x.fault());
        check.due("the tape is as it was", 1, x.bus(GOOD.length()));
        check.due("about(5)", 5, x.about(5));
    }

    @Sentence(promise = 3, says = "4 (the BUS stays, as it is)")
    static void promise3_theBusStaysBehindAFault(Check check) {
        GapLinks x = Check.bus(Boundaries.one(2, 0, 1, 60, 8, 2));
        x.babble(0, 3);
        x.send(0, 3);
        x.ticks(11);
        x.keep();
        x.ticks(3);
        x.down(1, 1);
        String before = Boundaries.all(x);
        // the fault is the very last thing: all else of another bus was read
        check.refused(x, "a text with a fault", Check.read(x, GreatestTest.greatest() + ";"), 4);
        check.due("all is as it was", true, before.equals(Boundaries.all(x)));
        check.due("an end of the faulty text", -1, x.named(Check.name("c")));
        check.due("the name of the link", 10, x.named(Check.name("k")));
        check.due("the network is down", 1, x.down(1, 0));
        check.due("load(0), lower", 4, x.load(0, true));
        check.due("bound(0, 0)", 4, x.bound(0, 0, false));
        check.due("way(0, 0, 1)", 7, x.way(0, 0, 1));
        check.due("back()", true, x.back());
        check.due("about(7) as it was kept", 11, x.about(7));
        x.ticks(100);
        check.due("frames go on", 5, x.seen(0, 0, 0));
        GapLinks none = new GapLinks();
        check.refused(none, "a fault without a bus", Check.read(none, BUS), 4);
        check.refused(none, "about(0), no BUS stays none", none.about(0), 1);
        check.refused(none, "at(0), no BUS stays none", none.at(0), 1);
    }

    // ---- promise 3: what a text can tell

    @Sentence(promise = 3, says = "blanks, 32, part TOKENS and mean nothing else")
    static void promise3_blanksPartTokensOrAreNotThere(Check check) {
        check.fine(GOOD, 1);
        check.fine("   " + GOOD.replace(" ", "   ").replace(";", "  ;  ") + "   ", 1);
        check.fine("bus switches2room3jitter0window1skew1;end a at0;end b at1;link k from a gap8length8to b", 1);
        check.fault(1, "bus switches 2 room 3 jitter 0 window 1 @skewed 1");
        check.fault(1, "bus @switche s 2 room 3");
        check.fault(1, "bus switches 2 room 1 @2 jitter 0");
        check.fault(1, "@busswitch 2");
        for (int other : new int[] {0, 9, 10, 13, 31, 33, 160}) {
            check.fault(1, "bus@" + (char) other + "switches 2");
        }
    }

    @Sentence(promise = 3, says = "WORDS of 1 to 8 small letters that stand together")
    static void promise3_wordsOfOneToEightLetters(Check check) {
        check.due("a name of one letter", 0, check.fine(GOOD, 1).named(Check.name("a")));
        GapLinks x = check.fine(GOOD.replace("end e", "end abcdefgh").replace("link k", "link zyxwvuts"), 1);
        check.due("an end of eight letters", 4, x.named(Check.name("abcdefgh")));
        check.due("a link of eight letters", 10, x.named(Check.name("zyxwvuts")));
        check.fault(1, BUS + ";end @abcdefghi at 0");
        check.fault(1, BUS + ";end @abcdefghijklmnopqrstuvwxyz at 0");
        check.fault(1, ENDS + ";link @abcdefghi from a");
        check.fault(1, "bus @switchesx 2");
        check.fault(1, TO + "@abcdefghi");
        check.fault(1, BUS + ";end @A at 0");
        check.fault(1, BUS + ";end a@B at 0");
        check.fault(1, BUS + ";end a@{ at 0");
        check.fault(1, BUS + ";end a@` at 0");
    }

    @Sentence(promise = 3, says = "WHOLES of 1 to 3 digits that do")
    static void promise3_wholesOfOneToThreeDigits(Check check) {
        check.fine(GOOD.replace("room 3", "room 03"), 1);
        check.due("012", 12, check.fine(GOOD.replace("room 3", "room 012"), 1).about(1));
        check.due("000", 0, check.fine(GOOD.replace("jitter 0", "jitter 000"), 1).about(2));
        check.fault(1, "bus switches @0002");
        check.fault(1, "bus switches @2222");
        check.fault(1, "bus switches @12345678901234567890");
        check.fault(1, "bus switches @-2");
        check.fault(1, "bus switches 2@/");
        check.fault(1, "bus switches 2@:");
    }

    @Sentence(promise = 3, says = "single ones of ;): LINE {; LINE}.")
    static void promise3_linesAreNeverEmpty(Check check) {
        check.fine(GOOD, 1);
        check.fault(1, "@;");
        check.fault(1, "@;" + GOOD);
        check.fault(1, BUS + ";@;end a at 0");
        check.fault(1, BUS + "; @; end a at 0");
        check.fault(1, GOOD + ";@");
        check.fault(1, GOOD + ";   @");
        check.fault(1, GOOD + "@,");
    }

    /** The number behind a word of the bus may be least to most, and is told by about(what). */
    private static void within(Check check, String word, int least, int most, int what) {
        String text = "bus switches 1 room 1 jitter 1 window 1 skew 1;end a at 0;end b at 0;link k from a gap 8 length 1 to b";
        for (int n : new int[] {least, least + 1, most - 1, most}) {
            check.due(word + " " + n, n, check.fine(text.replace(word + " 1", word + " " + n), 1).about(what));
        }
        for (int n : new int[] {least - 1, most + 1, 999}) {
            if (n >= 0 && n <= 999 && n != most) {
                check.fault(4, text.replace(word + " 1", word + " @" + n));
            }
        }
        check.fault(1, text.replace(word + " 1", word + " @1000"));
        check.fault(1, text.replace(word + " 1", word + " @-1"));
        check.fault(1, text.replace(word + " 1", word + " @x"));
    }

    @Sentence(promise = 3, says = "SWITCHES in a row, numbered from 0, 1 .. 3")
    static void promise3_switchesOneToThree(Check check) {
        within(check, "switches", 1, 3, 0);
    }

    @Sentence(promise = 3, says = "ROOM of a PORT, 1 .. 12")
    static void promise3_roomOneToTwelve(Check check) {
        within(check, "room", 1, 12, 1);
    }

    @Sentence(promise = 3, says = "JITTER, 0 .. 400")
    static void promise3_jitterNoneToFourHundred(Check check) {
        within(check, "jitter", 0, 400, 2);
    }

    @Sentence(promise = 3, says = "WINDOW, 1 .. 100")
    static void promise3_windowOneToAHundred(Check check) {
        within(check, "window", 1, 100, 3);
    }

    @Sentence(promise = 3, says = "SKEW, 1 .. 999")
    static void promise3_skewOneToNineHundredNinetyNine(Check check) {
        within(check, "skew", 1, 999, 4);
    }

    @Sentence(promise = 3, says = "ahead of all others")
    static void promise3_theBusGoesAheadOfAllOtherLines(Check check) {
        check.fine(GOOD, 1);
        check.fault(6, "@end a at 0;" + BUS);
        check.fault(6, " @link k from a gap 8 length 8 to b;" + GOOD);
    }

    @Sentence(promise = 3, says = "an END at a SWITCH; numbered from 0; up to 6")
    static void promise3_upToSixEndsAtSwitchesThatAreThere(Check check) {
        for (int switches = 1; switches <= 3; switches++) {
            String text = "bus switches " + switches + " room 1 jitter 0 window 1 skew 1;end a at 0";
            GapLinks x = check.fine(text + ";end b at " + (switches - 1) + ";link k from a gap 8 length 1 to b", 1);
            check.due("at(1)", switches - 1, x.at(1));
            check.fault(4, text + ";end b at @" + switches);
            check.fault(4, text + ";end b at @999");
        }
        String six = ENDS + ";end f at 0";
        check.due("six ends", 6, check.fine(six + ";link k from a gap 8 length 8 to f", 1).about(5));
        check.fault(5, six + ";@end g at 0");
    }

    @Sentence(promise = 3, says = "GAP 8, 16, 32, 64, 128 or 256")
    static void promise3_sixGapsAndNoOther(Check check) {
        String text = ENDS + ";link k from a gap ";
        for (int gap = 0; gap <= 999; gap++) {
            if (gap == 8 || gap == 16 || gap == 32 || gap == 64 || gap == 128 || gap == 256) {
                check.due("gap " + gap, gap, check.fine(text + gap + " length 1 to b", 1).link(0, 1));
            } else {
                check.fault(4, text + "@" + gap + " length 1 to b");
            }
        }
    }

    @Sentence(promise = 3, says = "LENGTH 1 .. 40, GAP at most")
    static void promise3_lengthOneToFortyAndToItsGap(Check check) {
        for (int gap = 8; gap <= 256; gap *= 2) {
            String text = ENDS + ";link k from a gap " + gap + " length ";
            int most = gap < 40 ? gap : 40;
            check.due("length 1", 1, check.fine(text + "1 to b", 1).link(0, 2));
            check.due("length " + most, most, check.fine(text + most + " to b", 1).link(0, 2));
            check.fault(4, text + "@0 to b");
            check.fault(4, text + "@" + (most + 1) + " to b");
            check.fault(4, text + "@999 to b");
        }
    }

    @Sentence(promise = 3, says = "up to three RECEIVERS, unlike one another and unlike the first END; numbered from 0; up to 8")
    static void promise3_oneToThreeReceiversAndUpToEightLinks(Check check) {
        check.fault(1, TO + "@");
        check.fault(1, TO + "@;end f at 0");
        check.due("one", 1, check.fine(TO + "b", 1).link(0, 3));
        check.due("two", 2, check.fine(TO + "b c", 1).link(0, 3));
        check.due("three", 3, check.fine(TO + "b c d", 1).link(0, 3));
        check.fault(1, TO + "b c d @e");
        check.fault(3, TO + "b c @b");
        check.fault(3, TO + "@a");
        StringBuilder eight = new StringBuilder(ENDS);
        for (char name = 'p'; name < 'x'; name++) {
            eight.append(";link " + name + " from a gap 8 length 1 to b");
        }
        check.fine(eight.toString(), 8);
        check.fault(5, eight + ";@link x from a gap 8 length 1 to b");
    }

    @Sentence(promise = 3, says = "NAMES are WORDS but bus, end, link")
    static void promise3_threeWordsAreNoNames(Check check) {
        for (String word : new String[] {"bus", "end", "link"}) {
            check.fault(1, BUS + ";end @" + word + " at 0");
            check.fault(1, ENDS + ";link @" + word + " from a");
            check.fault(1, ENDS + ";link k from @" + word + " gap 8");
            check.fault(1, TO + "@" + word);
            check.fault(1, TO + "b @" + word);
        }
        for (String word : new String[] {"switches", "room", "jitter", "window", "skew", "at", "from", "gap", "length",
            "to", "buses", "ends", "links", "bu", "en", "lin"}) {
            check.fine(BUS + ";end " + word + " at 0;end b at 0;link k from " + word + " gap 8 length 1 to b;"
                    + "link m from b gap 8 length 1 to " + word, 2);
            check.fine(ENDS + ";link " + word + " from a gap 8 length 1 to b", 1);
        }
    }

    @Sentence(promise = 3, says = "each told once (of ENDS and LINKS together), an END ahead of its use")
    static void promise3_namesAreToldOnceAndEndsAheadOfTheirUse(Check check) {
        check.fine(GOOD + ";end f at 0;link m from f gap 8 length 8 to a", 2);
        check.fault(2, GOOD + ";link m from @f gap 8 length 8 to a;end f at 0");
        check.fault(2, GOOD + ";link m from a gap 8 length 8 to @f;end f at 0");
        check.fault(3, GOOD + ";end @k at 0");
        check.fault(3, ENDS + ";link @e from a gap 8 length 8 to b");
    }

    // ---- promise 4

    @Sentence(promise = 4, says = "The FAULT of the latest bus() not refused by 2")
    static void promise4_aBusRefusedBy2LeavesTheFault(Check check) {
        GapLinks x = new GapLinks();
        Check.read(x, BUS);
        check.due("fault()", 6, x.fault());
        x.bus(1);
        x.bus(-1);
        check.due("fault() behind refusals by 2", 6, x.fault());
        x.about(0);
        check.due("fault() behind another refused call", 6, x.fault());
        Check.read(x, "bus switches 0");
        check.due("fault() of the next", 4, x.fault());
    }

    @Sentence(promise = 4, says = "0 without one")
    static void promise4_noFaultIsZero(Check check) {
        GapLinks x = new GapLinks();
        check.due("fault() ahead of any bus()", 0, x.fault());
        x.bus(1);
        check.due("fault() behind a bus() refused by 2", 0, x.fault());
        Check.read(x, BUS);
        Check.read(x, GOOD);
        check.due("fault() of a bus behind one with a fault", 0, x.fault());
        x.bus(-1);
        check.due("fault() behind a bus() refused by 2", 0, x.fault());
    }

    @Sentence(promise = 4, says = "FAULTS, the first that is met from the left, of one place the least number")
    static void promise4_theFirstFromTheLeftAndTheLeastOfOnePlace(Check check) {
        check.fault(4, "bus switches @0 room 0 jitter 401;end end;;;");
        check.fault(3, ENDS + ";end @a at 9;end bus");
        check.fault(2, ENDS + ";link k from @f gap 7 length 0 to a");
        check.fault(5, ENDS + ";end f at 0;@end a at 9");
        check.fault(6, "@link bus from");
        check.fault(4, "bus switches @4 .");
        check.fault(1, "bus switches 3 @. room 0");
        // 1 FORM ahead of 2, 3 and 6 at one place
        check.fault(1, TO + "b c d @nobody");
        check.fault(1, TO + "b c d @a");
        check.fault(1, TO + "b c d @b");
        check.fault(1, "@");
        check.fault(1, BUS + ";@");
        check.fault(1, BUS + ";end a@");
    }

    @Sentence(promise = 4, says = "1 FORM: the first byte that begins no TOKEN")
    static void promise4_bytesThatBeginNoToken(Check check) {
        for (int sign = 0; sign < 256; sign++) {
            boolean blank = sign == ' ';
            boolean letter = sign >= 'a' && sign <= 'z';
            boolean digit = sign >= '0' && sign <= '9';
            if (!blank && !letter && !digit && sign != ';') {
                check.fault(1, GOOD + "@" + (char) sign);
                if (sign != '@') {
                    check.fault(1, "@" + (char) sign + GOOD);
                }
            }
        }
    }

    @Sentence(promise = 4, says = "or TOKEN with which no BUS goes on")
    static void promise4_tokensWithWhichNoBusGoesOn(Check check) {
        check.fault(1, "@buses");
        check.fault(1, "@7");
        check.fault(1, "bus @room");
        check.fault(1, "bus @2");
        check.fault(1, "bus switches @;");
        check.fault(1, "bus switches 2 @jitter");
        check.fault(1, "bus switches 2 room 3 @room");
        check.fault(1, "bus switches 2 room 3 jitter 0 @skew");
        check.fault(1, "bus switches 2 room 3 jitter 0 window 1 @window");
        check.fault(1, BUS + " @end a at 0");
        check.fault(1, BUS + " @1");
        check.fault(1, BUS + ";@switches");
        check.fault(1, BUS + ";@1");
        check.fault(1, BUS + ";end @1");
        check.fault(1, BUS + ";end a @0");
        check.fault(1, BUS + ";end a at @at");
        check.fault(1, BUS + ";end a at 0 @0");
        check.fault(1, BUS + ";end a at 0 @end");
        check.fault(1, ENDS + ";link @1");
        check.fault(1, ENDS + ";link k @gap");
        check.fault(1, ENDS + ";link k from @1");
        check.fault(1, ENDS + ";link k from a @length");
        check.fault(1, ENDS + ";link k from a gap @a");
        check.fault(1, ENDS + ";link k from a gap 8 @to");
        check.fault(1, ENDS + ";link k from a gap 8 length @a");
        check.fault(1, ENDS + ";link k from a gap 8 length 8 @b");
        check.fault(1, TO + "@8");
        check.fault(1, TO + "b @8");
        check.fault(1, TO + "b c d @8");
        check.fault(1, TO + "b c d @link m");
    }

    @Sentence(promise = 4, says = "(the end: its place; a fourth RECEIVER, too)")
    static void promise4_theEndTooSoonAndAFourthReceiver(Check check) {
        String[] tokens = (GOOD + ";").replace(";", " ; ").trim().split(" +");
        StringBuilder text = new StringBuilder();
        for (int k = 0; k < tokens.length; k++) {
            // a whole line is well formed: only its LINKS are lacking
            boolean lineEnds = k > 0 && tokens[k].equals(";");
            if (k < tokens.length - 1) {
                check.fault(lineEnds ? 6 : 1, text + "@");
                check.fault(lineEnds ? 6 : 1, text + "  @");
            }
            text.append(tokens[k]).append(' ');
        }
        check.fault(1, text + "@");
        check.fault(1, TO + "b c d @e");
        check.fault(1, TO + "b c d @e;");
    }

    @Sentence(promise = 4, says = "2 a NAME that isn't told, or isn't an END; at it.")
    static void promise4_namesThatAreNotToldOrNoEnds(Check check) {
        check.fault(2, ENDS + ";link k from @f gap 8 length 8 to b");
        check.fault(2, ENDS + ";link k from @k gap 8 length 8 to b");
        check.fault(2, ENDS + ";link k from @aa gap 8 length 8 to b");
        check.fault(2, TO + "@f");
        check.fault(2, TO + "b c @f");
        check.fault(2, TO + "@k");
        check.fault(2, GOOD + ";link m from @k gap 8 length 8 to b");
        check.fault(2, GOOD + ";link m from a gap 8 length 8 to b @k");
        check.fault(2, BUS + ";link k from @k");
    }

    @Sentence(promise = 4, says = "3 AGAIN: a NAME told again")
    static void promise4_namesToldAgain(Check check) {
        check.fault(3, ENDS + ";end @a at 0");
        check.fault(3, ENDS + ";end @e at 0");
        check.fault(3, ENDS + ";link @a from a");
        check.fault(3, GOOD + ";end @k at 0");
        check.fault(3, GOOD + ";link @k from a");
    }

    @Sentence(promise = 4, says = "a RECEIVER again, the first END as a RECEIVER; at it")
    static void promise4_receiversAgain(Check check) {
        check.fault(3, TO + "b @b");
        check.fault(3, TO + "b c @b");
        check.fault(3, TO + "b c @c");
        check.fault(3, TO + "@a");
        check.fault(3, TO + "b @a");
        check.fault(3, TO + "b c @a");
    }

    @Sentence(promise = 4, says = "a second bus: at that WORD")
    static void promise4_aSecondBus(Check check) {
        check.fault(3, BUS + ";@" + BUS);
        check.fault(3, GOOD + ";  @bus");
        check.fault(3, GOOD + ";@bus switches 9");
    }

    @Sentence(promise = 4, says = "4 a WHOLE out of bounds; at it.")
    static void promise4_wholesOutOfBounds(Check check) {
        check.fault(4, "bus switches @4 room 1");
        check.fault(4, "bus switches   @000");
        check.fault(4, BUS.replace("skew 1", "skew @0"));
        check.fault(4, BUS + ";end a at @2");
        check.fault(4, ENDS + ";link k from a gap @257");
        check.fault(4, ENDS + ";link k from a gap 256 length @41");
        check.fault(4, ENDS + ";link k from a gap 16 length @17");
    }

    @Sentence(promise = 4, says = "5 MANY: a LINE more of its sort than there is room for, at its first WORD.")
    static void promise4_aLineMoreThanThereIsRoomFor(Check check) {
        String six = ENDS + ";end f at 0";
        check.fine(six + ";link k from f gap 8 length 8 to a", 1);
        check.fault(5, six + "; @end g at 0");
        check.fault(5, six + ";@end");
        check.fault(5, six + ";link k from f gap 8 length 8 to a;@end a at 0");
        String eight = GreatestTest.greatest();
        check.fine(eight, 8);
        check.fault(5, eight + "; @link z from a gap 8 length 1 to b");
        check.fault(5, eight + ";@link");
        check.fault(5, eight + ";@end g at 0");
    }

    @Sentence(promise = 4, says = "6 LACKS: any LINE ahead of the bus; at its WORD; at the end: no LINK.")
    static void promise4_linesAheadOfTheBusAndNoLink(Check check) {
        check.fault(6, "@end");
        check.fault(6, "@link");
        check.fault(6, "  @end a at 0;" + GOOD);
        check.fault(6, BUS + "@");
        check.fault(6, ENDS + "@");
        check.fault(6, ENDS + "   @");
    }

    // ---- promise 5

    @Sentence(promise = 5, says = "Its place, if the latest call that may be refused was by 4")
    static void promise5_thePlaceFromTheFirstByteToTheEndOfTheTape(Check check) {
        GapLinks x = new GapLinks();
        Check.feed(x, "." + " ".repeat(19));
        x.bus(20);
        check.due("where() of the first byte", 0, x.where());
        Check.feed(x, " ".repeat(900));
        x.bus(900);
        check.due("where() of the end of a full tape", 900, x.where());
        Check.feed(x, " ".repeat(899) + ".");
        x.bus(900);
        check.due("where() of the last byte of a full tape", 899, x.where());
        x.feed(0, 0, 0, 0, 0);
        x.fault();
        x.size(0);
        x.size(5);
        x.trouble();
        check.noSilent(x, 0);
        check.due("where() behind calls of which no number is told", 899, x.where());
    }

    @Sentence(promise = 5, says = "NONE else")
    static void promise5_noPlaceElse(Check check) {
        GapLinks x = new GapLinks();
        check.due("where() of a new object", -1, x.where());
        x.bus(1);
        check.due("where() behind a refusal by 2", -1, x.where());
        Check.read(x, "bus x");
        check.due("where()", 4, x.where());
        x.bus(1);
        check.due("where() behind a bus() refused by 2", -1, x.where());
        Check.read(x, "bus x");
        x.about(0);
        check.due("where() behind a call refused by 1", -1, x.where());
        Check.read(x, GOOD);
        check.due("where() of a bus", -1, x.where());
        Check.read(x, "bus x");
        check.due("where() again", 4, x.where());
        x.about(0);
        check.due("where() behind a call that is not refused", -1, x.where());
    }
}
