/** Promises 1 to 5: a new object, the tape, the text of a bus and its faults. */
final class TextTest {
    private static final String BUS = "bus switches 2 room 3 jitter 0 window 1 skew 1";
    private static final String ENDS = BUS + ";end a at 0;end b at 1;end c at 1;end d at 0;end e at 0";
    private static final String GOOD = ENDS + ";link k from a gap 8 length 8 to b";

    private static final Check CHECK = new Check("TextTest");

    public static void main(String[] args) {
        newObject();
        tape();
        numbers();
        partOfTheTape();
        wellFormed();
        bounds();
        form();
        tokens();
        namesAndEnds();
        many();
        lacks();
        busStays();
        busBegins();
        whereIsForgotten();
        CHECK.finish();
    }

    private static void newObject() {
        GapLinks x = new GapLinks();
        CHECK.due("trouble()", 0, x.trouble());
        CHECK.due("fault()", 0, x.fault());
        CHECK.due("where()", -1, x.where());
        for (int what = 0; what < 5; what++) {
            CHECK.due("size(" + what + ")", 0, x.size(what));
        }
        CHECK.refused(x, "about(0)", x.about(0), 1);
        CHECK.refused(x, "at(0)", x.at(0), 1);
        CHECK.refused(x, "link(0, 0)", x.link(0, 0), 1);
        CHECK.refused(x, "receiver(0, 0)", x.receiver(0, 0), 1);
        CHECK.refused(x, "named(0)", x.named(0), 1);
        CHECK.refused(x, "way(0, 0, 0)", x.way(0, 0, 0), 1);
        CHECK.refused(x, "waits(0, 0)", x.waits(0, 0), 1);
        CHECK.refused(x, "credit(0, 0)", x.credit(0, 0), 1);
        CHECK.refused(x, "port(0, 0, 0)", x.port(0, 0, 0), 1);
        CHECK.refused(x, "frame(0, 0, 0, 0)", x.frame(0, 0, 0, 0), 1);
        CHECK.refused(x, "lost(0, 0)", x.lost(0, 0), 1);
        CHECK.refused(x, "policed(0, 0)", x.policed(0, 0), 1);
        CHECK.refused(x, "heard(0, 0, 0)", x.heard(0, 0, 0), 1);
        CHECK.refused(x, "seen(0, 0, 0)", x.seen(0, 0, 0), 1);
        CHECK.refused(x, "taken(0, 0, 0)", x.taken(0, 0, 0), 1);
        CHECK.refused(x, "load(0)", x.load(0, true), 1);
        CHECK.refused(x, "delay(0)", x.delay(0, true), 1);
        CHECK.refused(x, "burst(0, 0, 1)", x.burst(0, 0, 1, true), 1);
        CHECK.refused(x, "bound(0, 0)", x.bound(0, 0, true), 1);
        CHECK.refused(x, "keeps(0, 0)", x.keeps(0, 0), 1);
        CHECK.refused(x, "fullest()", x.fullest(), 1);
        CHECK.refused(x, "leastGap(0)", x.leastGap(0), 1);
        CHECK.refused(x, "through(0)", x.through(0), 1);
        CHECK.refused(x, "send(0, 1)", x.send(0, 1), 1);
        CHECK.refused(x, "babble(0, 1)", x.babble(0, 1), 1);
        CHECK.refused(x, "down(0, 1)", x.down(0, 1), 1);
        CHECK.refused(x, "anew(0)", x.anew(0), 1);
        CHECK.refused(x, "ticks(1)", x.ticks(1), 1);
        CHECK.refused(x, "willHear(1, 0, 0, 0)", x.willHear(1, 0, 0, 0), 1);
        CHECK.refused(x, "willLose(1, 0, 0)", x.willLose(1, 0, 0), 1);
        CHECK.refused(x, "quiet()", x.quiet(), 1);
        CHECK.due(x, "keep()", 0, x.keep() ? 1 : 0, 1);
        x.bus(0);
        CHECK.due(x, "keep()", 0, x.keep() ? 1 : 0, 1);
        CHECK.due(x, "back()", 0, x.back() ? 1 : 0, 1);
        CHECK.noSilent(x, 0);
    }

    private static void tape() {
        GapLinks x = new GapLinks();
        x.about(0);
        for (int k = 1; k <= 45; k++) {
            CHECK.due(x, "feed " + k, 20 * k, x.feed(0, 0, 0, 0, 0), 1);
        }
        CHECK.due(x, "feed beyond 900", -1, x.feed(0, 0, 0, 0, 0), 1);
        CHECK.due("size(0)", 900, x.size(0));
        CHECK.refused(x, "bus(900)", x.bus(900), 4);
        CHECK.due("size(0) behind bus()", 0, x.size(0));
        CHECK.due("feed anew", 20, x.feed(-1, Integer.MIN_VALUE, Integer.MAX_VALUE, 0, 1));

        GapLinks full = new GapLinks();
        String text = " ".repeat(900 - GOOD.length()) + GOOD;
        CHECK.due("a text of 900 bytes", 1, Check.read(full, text));
    }

    private static void numbers() {
        GapLinks x = new GapLinks();
        CHECK.refused(x, "bus(-1)", x.bus(-1), 2);
        CHECK.refused(x, "bus(1)", x.bus(1), 2);
        Check.feed(x, GOOD);
        int fed = x.size(0);
        CHECK.refused(x, "bus(fed + 1)", x.bus(fed + 1), 2);
        CHECK.refused(x, "bus(least)", x.bus(Integer.MIN_VALUE), 2);
        CHECK.due("the tape stays", fed, x.size(0));
        CHECK.due(x, "bus(fed)", 1, x.bus(fed), 0);
        CHECK.due("the tape is empty", 0, x.size(0));
        CHECK.refused(x, "bus(0)", x.bus(0), 4);
        CHECK.due("fault()", 1, x.fault());
        CHECK.refused(x, "bus(1)", x.bus(1), 2);
        CHECK.due("fault() of the latest bus() not refused by 2", 1, x.fault());
        CHECK.due("where() of a call refused by 2", -1, x.where());
        CHECK.due("bus() again", 1, Check.read(x, GOOD));
        CHECK.due("fault() without one", 0, x.fault());
        CHECK.due("where() without one", -1, x.where());
    }

    private static void partOfTheTape() {
        GapLinks x = new GapLinks();
        Check.feed(x, GOOD + "cd;bus");
        CHECK.due("a word is cut by n", 1, x.bus(GOOD.length()));
        String digits = BUS + "5;";
        Check.feed(x, digits);
        CHECK.refused(x, "a whole is cut by n", x.bus(BUS.length()), 4);
        CHECK.due("the end is at n", BUS.length(), x.where());
        CHECK.due("no link", 6, x.fault());
        Check.feed(x, BUS.replace("skew 1", "skew 9999"));
        CHECK.refused(x, "a whole of three digits by n", x.bus(BUS.length() + 2), 4);
        CHECK.due("no link", 6, x.fault());
    }

    private static void wellFormed() {
        CHECK.fine(GOOD, 1);
        CHECK.fine("   " + GOOD.replace(";", " ;   ") + "   ", 1);
        CHECK.fine(GOOD.replace(" 2 room 3 ", "2room3").replace("at 0", "at0"), 1);
        CHECK.fine(GOOD + ";end f at 1;link l from f gap 256 length 40 to a b c", 2);
        CHECK.fine(BUS + ";end at at 0;end to at 1;end gap at 0;link from from at gap 8 length 1 to to gap", 1);
        CHECK.fine("bus switches 001 room 012 jitter 400 window 100 skew 999;end a at 000;end b at 00;"
                + "link abcdefgh from a gap 064 length 040 to b", 1);
        CHECK.fine(BUS + ";end switches at 0;end b at 0;link k from switches gap 128 length 1 to b;"
                + "link m from b gap 32 length 32 to switches", 2);
    }

    private static void bounds() {
        String tail = ";end a at 0;end b at 0;link k from a gap 8 length 1 to b";
        CHECK.fault(4, "bus switches @0 room");
        CHECK.fault(4, "bus switches @4");
        CHECK.fault(4, "bus switches 1 room @0");
        CHECK.fault(4, "bus switches 1 room @13 jitter");
        CHECK.fault(4, "bus switches 1 room 12 jitter @401");
        CHECK.fault(4, "bus switches 1 room 12 jitter 400 window @0");
        CHECK.fault(4, "bus switches 1 room 12 jitter 400 window @101");
        CHECK.fault(4, "bus switches 1 room 12 jitter 400 window 100 skew @0");
        CHECK.fine("bus switches 3 room 1 jitter 0 window 1 skew 1" + tail, 1);
        CHECK.fault(4, BUS + ";end a at @2");
        CHECK.fault(4, "bus switches 3 room 1 jitter 0 window 1 skew 1;end a at 2;end b at @3");
        CHECK.fault(4, ENDS + ";link k from a gap @0");
        CHECK.fault(4, ENDS + ";link k from a gap @4");
        CHECK.fault(4, ENDS + ";link k from a gap @12");
        CHECK.fault(4, ENDS + ";link k from a gap @512");
        CHECK.fault(4, ENDS + ";link k from a gap 8 length @0 to b");
        CHECK.fault(4, ENDS + ";link k from a gap 8 length @9 to b");
        CHECK.fault(4, ENDS + ";link k from a gap 32 length @33 to b");
        CHECK.fault(4, ENDS + ";link k from a gap 64 length @41 to b");
        for (int gap = 8; gap <= 256; gap *= 2) {
            CHECK.fine(ENDS + ";link k from a gap " + gap + " length " + Math.min(40, gap) + " to b", 1);
        }
    }

    private static void form() {
        CHECK.fault(1, "@");
        CHECK.fault(1, "    @");
        CHECK.fault(1, "@;" + GOOD);
        CHECK.fault(1, "@switches");
        CHECK.fault(1, "@7");
        CHECK.fault(1, "bus@");
        CHECK.fault(1, "bus @2");
        CHECK.fault(1, "bus @room 2");
        CHECK.fault(1, "bus switches @two");
        CHECK.fault(1, "bus switches @;");
        CHECK.fault(1, BUS + " @end a at 0");
        CHECK.fault(1, BUS + " @7");
        CHECK.fault(1, BUS + "; @");
        CHECK.fault(1, GOOD + ";@");
        CHECK.fault(1, GOOD + "; @;");
        CHECK.fault(1, GOOD + "; @foo");
        CHECK.fault(1, BUS + ";end @end at 0");
        CHECK.fault(1, BUS + ";end @bus at 0");
        CHECK.fault(1, BUS + ";end @link at 0");
        CHECK.fault(1, BUS + ";end @7");
        CHECK.fault(1, BUS + ";end a @on 0");
        CHECK.fault(1, BUS + ";end a at @b");
        CHECK.fault(1, BUS + ";end a at 0 @0");
        CHECK.fault(1, ENDS + ";link @bus from a");
        CHECK.fault(1, ENDS + ";link k @to a");
        CHECK.fault(1, ENDS + ";link k from @end");
        CHECK.fault(1, ENDS + ";link k from @8");
        CHECK.fault(1, ENDS + ";link k from a @length 8");
        CHECK.fault(1, ENDS + ";link k from a gap @a");
        CHECK.fault(1, ENDS + ";link k from a gap 8 @to b");
        CHECK.fault(1, ENDS + ";link k from a gap 8 length 8 @b");
        CHECK.fault(1, ENDS + ";link k from a gap 8 length 8 to @");
        CHECK.fault(1, ENDS + ";link k from a gap 8 length 8 to  @;");
        CHECK.fault(1, ENDS + ";link k from a gap 8 length 8 to @link");
        CHECK.fault(1, ENDS + ";link k from a gap 8 length 8 to b @end f at 0");
        CHECK.fault(1, ENDS + ";link k from a gap 8 length 8 to b @8");
        CHECK.fault(1, ENDS + ";link k from a gap 8 length 8 to b c d @e");
        CHECK.fault(1, ENDS + ";link k from a gap 8 length 8 to b c d @nobody");
        CHECK.fault(1, ENDS + ";link k from a gap 8 length 8 to b c d @b");
    }

    private static void tokens() {
        CHECK.fault(1, GOOD + "@.");
        CHECK.fault(1, GOOD + "@" + (char) 9);
        CHECK.fault(1, GOOD + "@" + (char) 0);
        CHECK.fault(1, GOOD + "@" + (char) 225);
        CHECK.fault(1, "@Bus");
        CHECK.fault(1, BUS + ";end a@_");
        CHECK.fault(1, BUS + ";end @abcdefghi at 0");
        CHECK.fault(1, "@switchess");
        CHECK.fault(1, "bus switches @0001");
        CHECK.fault(1, "bus switches @1000");
        CHECK.fault(1, BUS + ";end a@{");
        CHECK.fault(1, BUS + ";end a@`");
        CHECK.fault(1, BUS + ";end a at 0@:");
        CHECK.fault(1, BUS + ";end a at 0@/");
    }

    private static void namesAndEnds() {
        CHECK.fault(2, ENDS + ";link k from @f gap");
        CHECK.fault(2, ENDS + ";link k from @k gap");
        CHECK.fault(2, GOOD + ";link m from @k gap 8");
        CHECK.fault(2, GOOD + ";link m from b gap 8 length 8 to @k");
        CHECK.fault(2, ENDS + ";link k from a gap 8 length 8 to @k");
        CHECK.fault(2, ENDS + ";link k from a gap 8 length 8 to b @nobody c");
        CHECK.fault(2, ENDS + ";link k from a gap 8 length 8 to b @to");
        CHECK.fault(3, ENDS + ";end @a at 0");
        CHECK.fault(3, GOOD + ";end @k at 0");
        CHECK.fault(3, ENDS + ";link @a from a");
        CHECK.fault(3, GOOD + ";link @k from a");
        CHECK.fault(3, ENDS + ";link k from a gap 8 length 8 to @a");
        CHECK.fault(3, ENDS + ";link k from a gap 8 length 8 to b @a");
        CHECK.fault(3, ENDS + ";link k from a gap 8 length 8 to b @b");
        CHECK.fault(3, ENDS + ";link k from a gap 8 length 8 to b c @b");
        CHECK.fault(3, ENDS + ";link k from a gap 8 length 8 to b c @c");
        CHECK.fault(3, BUS + ";@" + BUS);
        CHECK.fault(3, GOOD + "; @bus");
    }

    private static void many() {
        String six = ENDS + ";end f at 0";
        CHECK.fault(5, six + ";@end g at 0");
        CHECK.fault(5, six + ";@end");
        CHECK.fault(5, six + ";@end a at 7");
        StringBuilder eight = new StringBuilder(ENDS);
        for (char name = 'p'; name < 'x'; name++) {
            eight.append(";link " + name + " from a gap 8 length 1 to b");
        }
        CHECK.fine(eight.toString(), 8);
        CHECK.fault(5, eight + "; @link x from a gap 8 length 1 to b");
        CHECK.fault(5, eight + ";@link");
        CHECK.fine(eight + ";end f at 0", 8);
    }

    private static void lacks() {
        CHECK.fault(6, "@end");
        CHECK.fault(6, "  @end a at 0;" + BUS);
        CHECK.fault(6, "@link k from a");
        CHECK.fault(6, BUS + "@");
        CHECK.fault(6, BUS + "  @");
        CHECK.fault(6, ENDS + "@");
    }

    private static void busStays() {
        GapLinks x = Check.bus(Check.THREE);
        x.send(0, 3);
        x.ticks(5);
        x.keep();
        x.down(1, 1);
        int frames = x.size(3);
        CHECK.refused(x, "a text with a fault", Check.read(x, "bus switches 1 room 1 jitter 0 window 1 skew 1;end q at 0"), 4);
        CHECK.due("about(0) stays", 3, x.about(0));
        CHECK.due("about(5) stays", 4, x.about(5));
        CHECK.due("about(7) stays", 5, x.about(7));
        CHECK.due("named stays", 0, x.named(Check.name("a")));
        CHECK.due("named of the faulty text", -1, x.named(Check.name("q")));
        CHECK.due("messages stay", 2, x.size(2));
        CHECK.due("frames stay", frames, x.size(3));
        CHECK.due("what is kept stays", 1, x.size(4));
        CHECK.due("down stays", 1, x.down(1, 0));
    }

    private static void busBegins() {
        GapLinks x = Check.bus(Check.THREE);
        x.send(0, 16);
        x.down(1, 1);
        x.babble(0, 20);
        x.babble(1, 20);
        x.ticks(300);
        x.send(1, 9);
        x.ticks(20);
        x.keep();
        CHECK.due("bus() again", 3, Check.read(x, Check.THREE));
        GapLinks fresh = Check.bus(Check.THREE);
        CHECK.due("nothing kept", 0, x.size(4));
        CHECK.due("back()", false, x.back());
        CHECK.due("down", 0, x.down(1, 0));
        for (int what = 0; what < 5; what++) {
            CHECK.due("size(" + what + ")", fresh.size(what), x.size(what));
            for (int l = 0; l < 3; l++) {
                CHECK.due("waits(" + l + ", " + what + ")", fresh.waits(l, what), x.waits(l, what));
            }
        }
        CHECK.due("time", 0, x.about(7));
        for (int net = 0; net < 2; net++) {
            for (int k = 0; k < 3; k++) {
                CHECK.due("lost", 0, x.lost(net, k));
                CHECK.due("policed", 0, x.policed(net, k));
                CHECK.due("credit", fresh.credit(net, k), x.credit(net, k));
                CHECK.due("seen", -2, x.seen(0, k, net));
            }
            for (int p = 0; p < 16; p++) {
                for (int what = 0; what < 4; what++) {
                    CHECK.due("port", fresh.port(net, p, what), x.port(net, p, what));
                }
            }
        }
        for (int what = 0; what < 8; what++) {
            CHECK.due("heard", what < 3 ? 0 : -2, x.heard(0, 0, what));
        }
        CHECK.due("taken", -1, x.taken(0, 0, 0));

        CHECK.due("another bus", 1, Check.read(x, GOOD));
        CHECK.due("its switches", 2, x.about(0));
        CHECK.due("its links", 1, x.about(6));
        CHECK.due("its credit", 64, x.credit(0, 0));
        CHECK.due("no port of the one ahead", -1, x.port(0, 13, 0));
        CHECK.due("through", 1, x.through(0));
        CHECK.due("through of a way that is no more", 0, x.through(6));
        // the third of several buses may find what the first left
        CHECK.due("and another", 3, Check.read(x, Check.THREE));
        CHECK.due("its way", 13, x.way(0, 1, 2));
        CHECK.due("the end of its way", -1, x.way(0, 1, 4));
        CHECK.due("one with other ways", 1, Check.read(x, GOOD.replace("from a", "from c").replace("to b", "to a")));
        CHECK.due("its way", 14, x.way(0, 0, 1));
        CHECK.due("no old way", 0, x.through(12));
        CHECK.due("and a third", 1, Check.read(x, GOOD.replace("to b", "to d")));
        CHECK.due("receivers", 1, x.size(1));
        CHECK.due("ends", 5, x.about(5));
        x.send(0, 1);
        CHECK.due("one receiver", 1, x.ticks(100));
        CHECK.due("no frame strays", 0, x.port(0, 12, 3));
        CHECK.due("burst", 8, x.burst(0, 0, 1, false));
    }

    private static void whereIsForgotten() {
        GapLinks x = new GapLinks();
        Check.read(x, "bus x");
        CHECK.due("where()", 4, x.where());
        CHECK.due("where() again", 4, x.where());
        x.size(0);
        x.size(77);
        x.fault();
        x.trouble();
        x.feed(0, 0, 0, 0, 0);
        CHECK.noSilent(x, 0);
        CHECK.due("where() behind calls that are never refused by a number", 4, x.where());
        x.about(0);
        CHECK.due("where() behind another refusal", -1, x.where());
        CHECK.due("fault() stays", 1, x.fault());
    }
}
