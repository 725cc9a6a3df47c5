/** Promises 29 to 38: acts, what will be, what is kept. */
final class ActTest {
    private static final String SHORT = "bus switches 1 room 12 jitter 400 window 2 skew 60;end a at 0;end b at 0;"
            + "end c at 0;link k from a gap 8 length 2 to b;link m from a gap 256 length 3 to c;"
            + "link n from b gap 8 length 1 to a";
    private static final String STRICT = SHORT.replace("jitter 400", "jitter 9");

    private static final Check CHECK = new Check("ActTest");

    public static void main(String[] args) {
        send();
        babble();
        down();
        anew();
        ticks();
        willHear();
        willLose();
        quiet();
        keepAndBack();
        keptNumbersTaken();
        keptMoreThanOnce();
        CHECK.finish();
    }

    private static void send() {
        GapLinks x = Check.bus(SHORT);
        CHECK.due(x, "send(0, 1)", 1, x.send(0, 1), 0);
        CHECK.due(x, "send(0, 15)", 16, x.send(0, 15), 0);
        CHECK.refused(x, "send(0, 1), full", x.send(0, 1), 3);
        CHECK.due("none came", 16, x.waits(0, 0));
        CHECK.due(x, "send(1, 16)", 16, x.send(1, 16), 0);
        CHECK.refused(x, "send(0, 0)", x.send(0, 0), 2);
        CHECK.refused(x, "send(0, 17)", x.send(0, 17), 2);
        CHECK.refused(x, "send(0, -1)", x.send(0, -1), 2);
        CHECK.refused(x, "send(0, least)", x.send(0, Integer.MIN_VALUE), 2);
        CHECK.refused(x, "send(3, 0)", x.send(3, 0), 1);
        CHECK.refused(x, "send(-1, 1)", x.send(-1, 1), 1);
        CHECK.due("send(2, 10)", 10, x.send(2, 10));
        CHECK.refused(x, "send(2, 7)", x.send(2, 7), 3);
        CHECK.due("send(2, 6)", 16, x.send(2, 6));
        CHECK.due("nothing goes ahead of a tick", 0, x.size(3));
    }

    private static void babble() {
        GapLinks x = Check.bus(SHORT);
        CHECK.due(x, "babble(0, 12)", 0, x.babble(0, 12), 0);
        CHECK.due(x, "babble(1, 20)", 40, x.babble(1, 20), 0);
        CHECK.due("in the port of a, network 0", 12, x.port(0, 0, 0));
        CHECK.due("in the port of a, network 1", 12, x.port(1, 0, 0));
        CHECK.due("lost(0, 0)", 20, x.lost(0, 0));
        CHECK.due("next number", 20, x.waits(1, 2));
        CHECK.due("no message comes or goes", 0, x.waits(1, 0));
        CHECK.due(x, "babble(2, 20)", 16, x.babble(2, 20), 0);
        CHECK.refused(x, "babble(0, 0)", x.babble(0, 0), 2);
        CHECK.refused(x, "babble(0, 21)", x.babble(0, 21), 2);
        CHECK.refused(x, "babble(0, -1)", x.babble(0, -1), 2);
        CHECK.refused(x, "babble(0, most)", x.babble(0, Integer.MAX_VALUE), 2);
        CHECK.refused(x, "babble(3, 0)", x.babble(3, 0), 1);
        CHECK.refused(x, "babble(-1, 1)", x.babble(-1, 1), 1);
        CHECK.due("born now", 0, x.frame(0, 0, 11, 2));
        x.ticks(9);
        x.babble(0, 1);
        CHECK.due("born now, at 9", 9, x.frame(0, 0, x.port(0, 0, 0) - 1, 2));
    }

    private static void down() {
        GapLinks x = Check.bus(SHORT);
        CHECK.due(x, "down(0, 0)", 0, x.down(0, 0), 0);
        CHECK.due(x, "down(0, 1)", 0, x.down(0, 1), 0);
        CHECK.due(x, "down(0, 1) again", 1, x.down(0, 1), 0);
        CHECK.due(x, "down(1, 1)", 0, x.down(1, 1), 0);
        CHECK.due(x, "down(0, 0)", 1, x.down(0, 0), 0);
        CHECK.refused(x, "down(0, 2)", x.down(0, 2), 2);
        CHECK.refused(x, "down(0, -1)", x.down(0, -1), 2);
        CHECK.refused(x, "down(2, 2)", x.down(2, 2), 1);
        CHECK.refused(x, "down(-1, 0)", x.down(-1, 0), 1);
        CHECK.due(x, "down(0, 0), as it was", 0, x.down(0, 0), 0);
        CHECK.due(x, "down(1, 0)", 1, x.down(1, 0), 0);
    }

    private static void anew() {
        GapLinks x = Check.bus(SHORT);
        x.send(0, 5);
        x.send(1, 3);
        x.send(2, 2);
        x.ticks(1);
        CHECK.due(x, "anew(0)", 6, x.anew(0), 0);
        for (int l = 0; l < 2; l++) {
            CHECK.due("waiting", 0, x.waits(l, 0));
            CHECK.due("number", 0, x.waits(l, 2));
            CHECK.due("born stays", 1, x.waits(l, 3));
        }
        CHECK.due("NEXT stays", 9, x.waits(0, 1));
        CHECK.due("NEXT stays", 257, x.waits(1, 1));
        CHECK.due("another END's wait on", 1, x.waits(2, 0));
        CHECK.due("another END's number", 1, x.waits(2, 2));
        CHECK.due("frames stay", 6, x.size(3));
        CHECK.due(x, "anew(2), without links", 0, x.anew(2), 0);
        CHECK.refused(x, "anew(3)", x.anew(3), 1);
        CHECK.refused(x, "anew(-1)", x.anew(-1), 1);
        CHECK.due("anew(0) again", 0, x.anew(0));
        CHECK.due("anew(1)", 1, x.anew(1));
    }

    private static void ticks() {
        GapLinks x = Check.bus(SHORT);
        CHECK.refused(x, "ticks(0)", x.ticks(0), 2);
        CHECK.refused(x, "ticks(-1)", x.ticks(-1), 2);
        CHECK.refused(x, "ticks(601)", x.ticks(601), 2);
        CHECK.refused(x, "ticks(most)", x.ticks(Integer.MAX_VALUE), 2);
        CHECK.due("time", 0, x.about(7));
        CHECK.due(x, "ticks(600)", 0, x.ticks(600), 0);
        CHECK.due("time", 600, x.about(7));
        x.send(0, 2);
        x.send(2, 1);
        // n is there by 603, k by 605 and 613
        CHECK.due("ticks(2)", 0, x.ticks(2));
        CHECK.due("ticks(1)", 1, x.ticks(1));
        CHECK.due("ticks(2)", 1, x.ticks(2));
        CHECK.due("ticks(7)", 0, x.ticks(7));
        CHECK.due("ticks(1)", 1, x.ticks(1));
        GapLinks whole = Check.bus(SHORT);
        GapLinks single = Check.bus(SHORT);
        for (GapLinks y : new GapLinks[] {whole, single}) {
            y.send(0, 9);
            y.send(1, 2);
            y.babble(2, 7);
        }
        int taken = 0;
        for (int k = 0; k < 100; k++) {
            taken += single.ticks(1);
        }
        CHECK.due("a hundred at once or one by one", taken, whole.ticks(100));
        CHECK.due("credit", single.credit(0, 2), whole.credit(0, 2));
        CHECK.due("time", single.heard(2, 0, 4), whole.heard(2, 0, 4));
    }

    private static void willHear() {
        GapLinks x = Check.bus(SHORT);
        x.send(0, 2);
        CHECK.due(x, "willHear(4, 0, 0, 0)", 0, x.willHear(4, 0, 0, 0), 0);
        CHECK.due(x, "willHear(5, 0, 0, 0)", 1, x.willHear(5, 0, 0, 0), 0);
        CHECK.due(x, "willHear(13, 0, 0, 0)", 2, x.willHear(13, 0, 0, 0), 0);
        CHECK.due(x, "willHear(600, 0, 0, 4)", 13, x.willHear(600, 0, 0, 4), 0);
        CHECK.due(x, "willHear(600, 1, 0, 3)", -2, x.willHear(600, 1, 0, 3), 0);
        CHECK.due("nothing was done", 0, x.about(7));
        CHECK.due("nothing was heard", 0, x.heard(0, 0, 0));
        CHECK.due("messages wait", 2, x.size(2));
        CHECK.refused(x, "willHear(0, ..)", x.willHear(0, 0, 0, 0), 2);
        CHECK.refused(x, "willHear(601, ..)", x.willHear(601, 0, 0, 0), 2);
        CHECK.refused(x, "willHear(-1, ..)", x.willHear(-1, 0, 0, 0), 2);
        CHECK.refused(x, "willHear(0, 3, ..)", x.willHear(0, 3, 0, 0), 1);
        CHECK.refused(x, "willHear(0, 0, 1, 0)", x.willHear(0, 0, 1, 0), 1);
        CHECK.refused(x, "willHear(0, 0, 0, 8)", x.willHear(0, 0, 0, 8), 1);
        CHECK.refused(x, "willHear(1, 0, 0, -1)", x.willHear(1, 0, 0, -1), 1);
        x.ticks(5);
        for (int what = 0; what < 8; what++) {
            int will = x.willHear(30, 0, 0, what);
            GapLinks y = Check.bus(SHORT);
            y.send(0, 2);
            y.ticks(35);
            CHECK.due("willHear(30, 0, 0, " + what + ")", y.heard(0, 0, what), will);
        }
    }

    private static void willLose() {
        GapLinks x = Check.bus(SHORT.replace("jitter 400", "jitter 0"));
        x.babble(2, 14);
        x.down(1, 1);
        // twelve are in the port, each one tick; credit is that of one
        CHECK.due(x, "willLose(1, 0, 0)", 2, x.willLose(1, 0, 0), 0);
        CHECK.due(x, "willLose(2, 0, 2)", 0, x.willLose(2, 0, 2), 0);
        CHECK.due(x, "willLose(3, 0, 2)", 1, x.willLose(3, 0, 2), 0);
        CHECK.due(x, "willLose(3, 1, 1)", 2, x.willLose(3, 1, 1), 0);
        CHECK.due(x, "willLose(600, 1, 1)", 12, x.willLose(600, 1, 1), 0);
        CHECK.due(x, "willLose(600, 0, 2)", 10, x.willLose(600, 0, 2), 0);
        CHECK.due("nothing was lost", 0, x.lost(1, 1) + x.lost(0, 2));
        CHECK.refused(x, "willLose(0, 0, 0)", x.willLose(0, 0, 0), 2);
        CHECK.refused(x, "willLose(601, 0, 0)", x.willLose(601, 0, 0), 2);
        CHECK.refused(x, "willLose(0, 2, 0)", x.willLose(0, 2, 0), 1);
        CHECK.refused(x, "willLose(0, -1, 0)", x.willLose(0, -1, 0), 1);
        CHECK.refused(x, "willLose(0, 0, 3)", x.willLose(0, 0, 3), 1);
        CHECK.refused(x, "willLose(1, 0, -1)", x.willLose(1, 0, -1), 1);
    }

    private static void quiet() {
        GapLinks x = Check.bus(SHORT);
        CHECK.due(x, "quiet(), nothing being done", 0, x.quiet(), 0);
        x.send(0, 1);
        CHECK.due("quiet()", 5, x.quiet());
        x.send(0, 1);
        CHECK.due("quiet()", 13, x.quiet());
        x.ticks(9);
        CHECK.due("quiet() at 9", 4, x.quiet());
        x.ticks(4);
        CHECK.due("quiet() at 13", 0, x.quiet());
        // m: at 14, 270, .. 14 + 256 k, and 6 more on its way
        x.send(1, 8);
        CHECK.due("quiet() behind eight messages of m", 1 + 7 * 256 + 6, x.quiet());
        x.send(1, 1);
        CHECK.due("quiet(), not so soon", -2, x.quiet());
        CHECK.due("nothing was done", 9, x.size(2));
        GapLinks y = edge();
        CHECK.due("not quiet behind 2000 ticks", -2, y.quiet());
        y.ticks(1);
        CHECK.due("quiet behind 2000 ticks", 2000, y.quiet());
        y.ticks(1);
        CHECK.due("quiet behind 1999 ticks", 1999, y.quiet());
    }

    /** The last of sixteen messages goes at 1 + 15 * 128, by two lines of 40 ticks: quiet behind 2001 ticks. */
    private static GapLinks edge() {
        GapLinks y = Check.bus("bus switches 1 room 1 jitter 0 window 1 skew 1;end a at 0;end b at 0;"
                + "link k from a gap 128 length 40 to b");
        y.send(0, 16);
        return y;
    }

    private static void keepAndBack() {
        GapLinks x = Check.bus(STRICT);
        CHECK.due("back() with nothing kept", false, x.back());
        CHECK.due("trouble()", 1, x.trouble());
        x.babble(2, 20);
        x.ticks(5);
        x.down(1, 1);
        x.babble(2, 5);
        x.send(0, 5);
        x.send(1, 2);
        x.ticks(7);
        x.babble(0, 3);
        String before = all(x);
        CHECK.due("keep()", true, x.keep());
        CHECK.due("trouble()", 0, x.trouble());
        CHECK.due("size(4)", 1, x.size(4));
        x.ticks(3);
        x.down(1, 0);
        x.down(0, 1);
        x.send(2, 9);
        x.anew(0);
        for (int k = 0; k < 5; k++) {
            x.babble(0, 12);
            x.babble(1, 3);
            x.babble(2, 20);
            x.ticks(30);
            x.down(0, 0);
        }
        CHECK.due("more were policed", true, x.policed(0, 2) > 0 && x.policed(1, 2) > 0);
        CHECK.due("more were refused", true, x.heard(2, 0, 1) > 0);
        CHECK.due("all is another", false, before.equals(all(x)));
        CHECK.due("back()", true, x.back());
        CHECK.due("trouble()", 0, x.trouble());
        CHECK.due("all is as it was kept", true, before.equals(all(x)));
        CHECK.due("it stays kept", 1, x.size(4));
        x.ticks(50);
        CHECK.due("back() again", true, x.back());
        CHECK.due("all is as it was kept", true, before.equals(all(x)));
        CHECK.due("the network is down as it was", 1, x.down(1, 1));
        CHECK.due("the other is not", 0, x.down(0, 0));
    }

    private static void keptNumbersTaken() {
        GapLinks x = Check.bus(SHORT);
        x.send(0, 12);
        x.ticks(100);
        CHECK.due("taken", 12, x.heard(0, 0, 0));
        x.keep();
        x.send(0, 15);
        x.ticks(130);
        CHECK.due("the latest", 26, x.taken(0, 0, 0));
        x.back();
        for (int k = 0; k < 10; k++) {
            CHECK.due("taken(0, 0, " + k + ") as it was kept", 11 - k, x.taken(0, 0, k));
        }
    }

    private static void keptMoreThanOnce() {
        GapLinks x = Check.bus(SHORT);
        x.keep();
        x.ticks(10);
        x.keep();
        x.ticks(10);
        x.quiet();
        x.willHear(7, 0, 0, 0);
        x.back();
        CHECK.due("what was kept before is no more", 10, x.about(7));
        x.ticks(5);
        Check.read(x, "bus switches 9");
        x.back();
        CHECK.due("a faulty bus leaves what is kept", 10, x.about(7));
        Check.read(x, SHORT);
        CHECK.due("a new bus has nothing kept", false, x.back());
        CHECK.due("trouble()", 1, x.trouble());
    }

    /** All answers on how it is, but for those that change it. */
    private static String all(GapLinks x) {
        StringBuilder all = new StringBuilder();
        all.append(x.about(7)).append(' ').append(x.size(2)).append(' ').append(x.size(3));
        for (int l = 0; l < 3; l++) {
            for (int what = 0; what < 10; what++) {
                all.append(' ').append(x.waits(l, what)).append(' ').append(x.heard(l, 0, what));
                all.append(' ').append(x.taken(l, 0, what));
            }
            for (int net = 0; net < 2; net++) {
                all.append(' ').append(x.credit(net, l)).append(' ').append(x.policed(net, l));
                all.append(' ').append(x.seen(l, 0, net)).append(' ').append(x.lost(net, l));
            }
        }
        for (int net = 0; net < 2; net++) {
            for (int p = 0; p < 9; p++) {
                for (int what = 0; what < 4; what++) {
                    all.append(' ').append(x.port(net, p, what));
                    for (int i = 0; i < 12; i++) {
                        all.append(' ').append(x.frame(net, p, i, what));
                    }
                }
            }
        }
        return all.toString();
    }
}
