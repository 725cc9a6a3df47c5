/** Promises 12 to 20: how it is behind ticks, and what is heard. */
final class TickTest {
    /** From a by port 0 in 2 ticks, to b by port 7 in 2 ticks; credit is just that of one frame. */
    private static final String SHORT = "bus switches 1 room 12 jitter 0 window 2 skew 60;end a at 0;end b at 0;"
            + "link k from a gap 8 length 2 to b";

    private static final Check CHECK = new Check("TickTest");

    public static void main(String[] args) {
        wrongInputs();
        gaps();
        nextOfAnIdleLink();
        credit();
        police();
        numbers();
        waiting();
        ports();
        mostBehindATick();
        fullPorts();
        fullAheadOfLeaving();
        onTheWay();
        downAtSwitches();
        integrity();
        window();
        windowOverTheTop();
        skew();
        zeroAgain();
        lateness();
        latestTen();
        CHECK.finish();
    }

    private static void wrongInputs() {
        GapLinks x = Check.bus(Check.THREE);
        x.babble(0, 2);
        for (int odd : new int[] {-1, 3, 99, Integer.MIN_VALUE, Integer.MAX_VALUE}) {
            CHECK.refused(x, "waits(odd, 0)", x.waits(odd, 0), 1);
            CHECK.refused(x, "credit(0, odd)", x.credit(0, odd), 1);
            CHECK.refused(x, "credit(odd, 0)", x.credit(odd, 0), 1);
            CHECK.refused(x, "port(odd, 0, 0)", x.port(odd, 0, 0), 1);
            CHECK.refused(x, "frame(odd, 0, 0, 0)", x.frame(odd, 0, 0, 0), 1);
            CHECK.refused(x, "frame(0, 0, odd, 0)", x.frame(0, 0, odd, 0), 1);
            CHECK.refused(x, "frame(0, 0, 0, odd)", x.frame(0, 0, 0, odd), 1);
            CHECK.refused(x, "lost(odd, 0)", x.lost(odd, 0), 1);
            CHECK.refused(x, "lost(0, odd)", x.lost(0, odd), 1);
            CHECK.refused(x, "policed(odd, 0)", x.policed(odd, 0), 1);
            CHECK.refused(x, "policed(0, odd)", x.policed(0, odd), 1);
            CHECK.refused(x, "heard(odd, 0, 0)", x.heard(odd, 0, 0), 1);
            CHECK.refused(x, "heard(0, odd, 0)", x.heard(0, odd, 0), 1);
            CHECK.refused(x, "seen(odd, 0, 0)", x.seen(odd, 0, 0), 1);
            CHECK.refused(x, "seen(0, odd, 0)", x.seen(0, odd, 0), 1);
            CHECK.refused(x, "seen(0, 0, odd)", x.seen(0, 0, odd), 1);
            CHECK.refused(x, "taken(odd, 0, 0)", x.taken(odd, 0, 0), 1);
            CHECK.refused(x, "taken(0, odd, 0)", x.taken(0, odd, 0), 1);
            CHECK.refused(x, "taken(0, 0, odd)", x.taken(0, 0, odd), 1);
        }
        CHECK.refused(x, "waits(0, 5)", x.waits(0, 5), 1);
        CHECK.refused(x, "waits(0, -1)", x.waits(0, -1), 1);
        CHECK.refused(x, "credit(2, 0)", x.credit(2, 0), 1);
        CHECK.refused(x, "port(2, 0, 0)", x.port(2, 0, 0), 1);
        CHECK.refused(x, "port(0, 0, 4)", x.port(0, 0, 4), 1);
        CHECK.refused(x, "port(0, 0, -1)", x.port(0, 0, -1), 1);
        CHECK.refused(x, "heard(0, 0, 8)", x.heard(0, 0, 8), 1);
        CHECK.refused(x, "heard(0, 0, -1)", x.heard(0, 0, -1), 1);
        CHECK.refused(x, "frame(0, 0, 2, 0)", x.frame(0, 0, 2, 0), 1);
        // ends 4 and 5 are not there; with three switches all ports between them are
        boolean[] there = {true, true, true, true, false, false, true, true, true, true, false, false,
            true, true, true, true};
        for (int p = 0; p < 16; p++) {
            CHECK.due(x, "port(1, " + p + ", 3)", there[p] ? 0 : -1, x.port(1, p, 3), there[p] ? 0 : 1);
        }
        for (int p : new int[] {-1, 16, Integer.MIN_VALUE, Integer.MAX_VALUE}) {
            CHECK.refused(x, "port(0, " + p + ", 0)", x.port(0, p, 0), 1);
            CHECK.refused(x, "frame(0, " + p + ", 0, 0)", x.frame(0, p, 0, 0), 1);
        }
        GapLinks one = Check.bus(SHORT);
        for (int p = 12; p < 16; p++) {
            CHECK.refused(one, "port(0, " + p + ", 0) of one switch", one.port(0, p, 0), 1);
        }
        GapLinks two = Check.bus(SHORT.replace("switches 1", "switches 2"));
        CHECK.due("port 12 of two switches", 0, two.port(0, 12, 0));
        CHECK.due("port 13 of two switches", -1, two.port(0, 13, 0));
        CHECK.due("port 14 of two switches", 0, two.port(0, 14, 0));
        CHECK.due("port 15 of two switches", -1, two.port(0, 15, 0));
    }

    private static void gaps() {
        GapLinks x = Check.bus(SHORT);
        CHECK.due("NEXT at first", 0, x.waits(0, 1));
        x.send(0, 3);
        CHECK.due("waiting", 3, x.waits(0, 0));
        x.ticks(1);
        CHECK.due("waiting at 1", 2, x.waits(0, 0));
        CHECK.due("NEXT at 1", 9, x.waits(0, 1));
        CHECK.due("number at 1", 1, x.waits(0, 2));
        CHECK.due("born at 1", 1, x.waits(0, 3));
        x.ticks(7);
        CHECK.due("waiting at 8", 2, x.waits(0, 0));
        x.ticks(1);
        CHECK.due("waiting at 9", 1, x.waits(0, 0));
        CHECK.due("NEXT at 9", 17, x.waits(0, 1));
        x.ticks(8);
        CHECK.due("waiting at 17", 0, x.waits(0, 0));
        CHECK.due("NEXT at 17", 25, x.waits(0, 1));
        CHECK.due("born at 17", 3, x.waits(0, 3));
    }

    private static void nextOfAnIdleLink() {
        GapLinks x = Check.bus(SHORT);
        x.ticks(30);
        CHECK.due("NEXT of an idle link", 0, x.waits(0, 1));
        x.send(0, 1);
        x.ticks(1);
        CHECK.due("a message at 31", 0, x.waits(0, 0));
        CHECK.due("NEXT at 31", 39, x.waits(0, 1));
        x.babble(0, 1);
        CHECK.due("NEXT behind babbling", 39, x.waits(0, 1));
        x.ticks(5);
        x.send(0, 1);
        x.ticks(2);
        CHECK.due("a message at 38", 1, x.waits(0, 0));
        x.ticks(1);
        CHECK.due("a message at 39", 0, x.waits(0, 0));
    }

    private static void credit() {
        GapLinks x = Check.bus(Check.THREE);
        int[] most = {4 * 32, 8 * 48, 3 * 80};
        for (int net = 0; net < 2; net++) {
            for (int l = 0; l < 3; l++) {
                CHECK.due(x, "credit(" + net + ", " + l + ")", most[l], x.credit(net, l), 0);
            }
        }
        x.ticks(10);
        CHECK.due("credit is at its most", 128, x.credit(1, 0));
        x.down(1, 1);
        x.send(0, 1);
        // born at 11, at its switch by 15
        x.ticks(5);
        CHECK.due("credit(0, 0) at 15", 64, x.credit(0, 0));
        CHECK.due("credit(1, 0) at 15, the network down", 128, x.credit(1, 0));
        CHECK.due("credit(0, 1) at 15", 384, x.credit(0, 1));
        x.ticks(1);
        CHECK.due("credit(0, 0) at 16", 68, x.credit(0, 0));
        x.ticks(14);
        CHECK.due("credit(0, 0) at 30", 124, x.credit(0, 0));
        x.ticks(5);
        CHECK.due("credit(0, 0) at 35", 128, x.credit(0, 0));
    }

    private static void police() {
        GapLinks x = Check.bus(SHORT);
        x.send(0, 2);
        x.ticks(13);
        CHECK.due("frames one gap apart have just credit enough", 2, x.heard(0, 0, 0));
        CHECK.due("lost(0, 2)", 0, x.lost(0, 2));
        x.ticks(20);
        x.babble(0, 3);
        x.ticks(3);
        CHECK.due("credit behind the first", 0, x.credit(0, 0));
        x.ticks(2);
        CHECK.due(x, "policed(0, 0)", 1, x.policed(0, 0), 0);
        CHECK.due("credit stays", 4, x.credit(0, 0));
        x.ticks(2);
        CHECK.due("policed(0, 0) of the third", 2, x.policed(0, 0));
        CHECK.due("policed(1, 0) of the third", 2, x.policed(1, 0));
        CHECK.due(x, "lost(0, 2)", 2, x.lost(0, 2), 0);
        CHECK.due("lost(1, 2)", 2, x.lost(1, 2));
        CHECK.due("lost(1, 0)", 0, x.lost(1, 0));
        CHECK.due("lost(1, 1)", 0, x.lost(1, 1));
        CHECK.due("taken", 3, x.heard(0, 0, 0));
    }

    private static void numbers() {
        GapLinks x = Check.bus(SHORT);
        for (int k = 0; k < 16; k++) {
            x.send(0, 16);
            x.ticks(128);
        }
        CHECK.due("the number behind 255", 1, x.waits(0, 2));
        CHECK.due("born", 256, x.waits(0, 3));
        x.ticks(8);
        CHECK.due("the latest", 255, x.heard(0, 0, 3));
        x.send(0, 2);
        x.ticks(16);
        CHECK.due("none was refused", 0, x.heard(0, 0, 1));
        CHECK.due("all were taken", 258, x.heard(0, 0, 0));
        int[] latest = {2, 1, 255, 254};
        for (int k = 0; k < latest.length; k++) {
            CHECK.due("taken(0, 0, " + k + ")", latest[k], x.taken(0, 0, k));
        }
    }

    private static void waiting() {
        GapLinks x = Check.bus("bus switches 1 room 12 jitter 0 window 2 skew 60;end a at 0;end b at 0;"
                + "link k from a gap 8 length 5 to b;link m from a gap 64 length 1 to b");
        CHECK.due("no WAIT yet", -2, x.waits(0, 4));
        x.send(0, 1);
        x.send(1, 1);
        x.ticks(1);
        CHECK.due("WAIT of the first", 0, x.waits(0, 4));
        CHECK.due("none of m began", -2, x.waits(1, 4));
        x.ticks(5);
        CHECK.due("WAIT of m", 5, x.waits(1, 4));
        CHECK.due("m is being sent", 1, x.port(0, 0, 1));
        x.ticks(50);
        x.babble(1, 1);
        x.ticks(1);
        CHECK.due("the longest WAIT of m stays", 5, x.waits(1, 4));
        x.ticks(9);
        x.babble(0, 1);
        CHECK.due("WAIT of k ahead of the tick", 0, x.waits(0, 4));
        x.ticks(1);
        CHECK.due("WAIT of a frame that babbled", 1, x.waits(0, 4));
        GapLinks y = Check.bus("bus switches 1 room 12 jitter 0 window 2 skew 60;end a at 0;end b at 0;end c at 0;"
                + "link k from b gap 64 length 5 to a;link m from c gap 64 length 5 to a");
        y.send(0, 1);
        y.send(1, 1);
        y.ticks(20);
        CHECK.due("m was late", 15, y.heard(1, 0, 6));
        CHECK.due("m did not WAIT in its END's port", 0, y.waits(1, 4));
    }

    private static void ports() {
        GapLinks x = Check.bus(Check.THREE);
        CHECK.due("none in it", 0, x.port(0, 0, 0));
        CHECK.due("none is being sent", -2, x.port(0, 0, 1));
        CHECK.due("none is through", -2, x.port(0, 0, 2));
        x.babble(0, 2);
        CHECK.due("two are in it", 2, x.port(1, 0, 0));
        CHECK.due("none is being sent ahead of the tick", -2, x.port(1, 0, 1));
        CHECK.due("none is through ahead of the tick", -2, x.port(1, 0, 2));
        CHECK.due("the most behind a tick", 0, x.port(1, 0, 3));
        x.ticks(1);
        CHECK.due("the link", 0, x.port(1, 0, 1));
        CHECK.due("when it is through", 5, x.port(1, 0, 2));
        CHECK.due("the most", 2, x.port(1, 0, 3));
        x.send(0, 1);
        x.ticks(1);
        int[][] frames = {{0, 0, 0}, {0, 1, 0}, {0, 2, 2}};
        for (int i = 0; i < 3; i++) {
            for (int what = 0; what < 3; what++) {
                CHECK.due(x, "frame(1, 0, " + i + ", " + what + ")", frames[i][what], x.frame(1, 0, i, what), 0);
            }
        }
        CHECK.refused(x, "frame(1, 0, 3, 0)", x.frame(1, 0, 3, 0), 1);
        x.ticks(3);
        CHECK.due("one went", 2, x.port(1, 0, 0));
        CHECK.due("the next is through", 9, x.port(1, 0, 2));
        CHECK.due("the first now", 1, x.frame(1, 0, 0, 1));
        CHECK.due("the most stays", 3, x.port(1, 0, 3));
        x.ticks(8);
        CHECK.due("it is empty", 0, x.port(1, 0, 0));
        CHECK.due("none is being sent", -2, x.port(1, 0, 1));
        CHECK.due("none is through", -2, x.port(1, 0, 2));
    }

    private static void mostBehindATick() {
        String text = "bus switches 1 room 12 jitter 400 window 2 skew 60;end a at 0;end b at 0;"
                + "link k from a gap 64 length 10 to b";
        GapLinks x = Check.bus(text);
        x.babble(0, 1);
        x.ticks(1);
        x.babble(0, 4);
        // the first is through at 11: five were in it behind tick 2
        x.ticks(10);
        CHECK.due("the most behind a tick in which nothing went", 5, x.port(0, 0, 3));
        GapLinks z = Check.bus(text);
        z.babble(0, 1);
        z.ticks(9);
        z.babble(0, 4);
        z.ticks(2);
        CHECK.due("the most behind the tick ahead of that in which one went", 5, z.port(0, 0, 3));
        GapLinks y = Check.bus(text);
        y.babble(0, 1);
        y.ticks(10);
        y.babble(0, 4);
        y.ticks(1);
        CHECK.due("the most behind a tick in which one went", 4, y.port(0, 0, 3));
    }

    private static void fullPorts() {
        GapLinks x = Check.bus(SHORT.replace("room 12", "room 2").replace("jitter 0", "jitter 400"));
        CHECK.due("five babble into a port of two", 6, x.babble(0, 5));
        CHECK.due("lost(0, 0)", 3, x.lost(0, 0));
        CHECK.due("lost(1, 0)", 3, x.lost(1, 0));
        CHECK.due("numbers of those lost are gone", 5, x.waits(0, 2));
        CHECK.due("they were born", 5, x.waits(0, 3));
        CHECK.due("in the port", 2, x.port(0, 0, 0));
        CHECK.due("the second", 1, x.frame(0, 0, 1, 1));
        x.send(0, 1);
        x.ticks(1);
        CHECK.due("a message's frame is lost, too", 4, x.lost(1, 0));
        CHECK.due("it was born", 6, x.waits(0, 3));
        CHECK.due("NEXT goes on", 9, x.waits(0, 1));
        x.ticks(20);
        CHECK.due("both were taken", 2, x.heard(0, 0, 0));
    }

    private static void fullAheadOfLeaving() {
        // a and c both fill port 7 to b; ports go by numbers: port 0's frame comes ahead of port 7's leaving
        GapLinks x = Check.bus("bus switches 1 room 1 jitter 400 window 2 skew 60;end a at 0;end b at 0;"
                + "link k from a gap 8 length 2 to b");
        x.babble(0, 1);
        x.ticks(1);
        x.ticks(2);
        CHECK.due("the first is on its way to b", 1, x.port(0, 7, 0));
        x.babble(0, 1);
        // begins at 4, is at the switch by 6, the first has left port 7 at 5
        x.ticks(3);
        CHECK.due("the second found room", 0, x.lost(0, 0));
        GapLinks y = Check.bus("bus switches 1 room 1 jitter 400 window 2 skew 60;end a at 0;end b at 0;end c at 0;"
                + "link k from a gap 8 length 2 to b;link m from c gap 8 length 4 to b");
        y.babble(0, 1);
        y.babble(1, 1);
        // k at the switch by 3, leaves port 7 at 5; m at the switch by 5, port 2 goes ahead of port 7
        y.ticks(5);
        CHECK.due("m found port 7 full", 1, y.lost(0, 0));
        CHECK.due("m found port 7 full in network 1", 1, y.lost(1, 0));
        CHECK.due("k was taken", 1, y.heard(0, 0, 0));
        CHECK.due("port 7 is empty", 0, y.port(0, 7, 0));
    }

    private static void onTheWay() {
        GapLinks x = Check.bus(Check.THREE);
        x.send(0, 1);
        // born at 1, at switch 0 by 5: into 9 (to d) and 12; at switch 1 by 9: into 7 and 13; at switch 2 by 13: into 8
        x.ticks(5);
        inPorts(x, 9, 12);
        CHECK.due("through 12", 9, x.port(0, 12, 2));
        x.ticks(4);
        inPorts(x, 7, 13);
        CHECK.due("d took it", 9, x.heard(0, 2, 4));
        x.ticks(4);
        inPorts(x, 8);
        CHECK.due("b took it", 13, x.heard(0, 0, 4));
        x.ticks(4);
        inPorts(x);
        CHECK.due("c took it", 17, x.heard(0, 1, 4));
        x.send(1, 1);
        // y goes left: born at 18, at switch 2 by 26, at 1 by 34, at 0 by 42, at a by 50
        x.ticks(9);
        inPorts(x, 15);
        x.ticks(8);
        inPorts(x, 14);
        x.ticks(8);
        inPorts(x, 6);
        x.ticks(8);
        inPorts(x);
        CHECK.due("a took it", 50, x.heard(1, 0, 4));
        x.send(2, 1);
        // z goes both ways from switch 1
        x.ticks(4);
        inPorts(x, 13, 14);
        x.ticks(3);
        inPorts(x, 6, 8);
        x.ticks(3);
        CHECK.due("c took z", 1, x.heard(2, 0, 0));
        CHECK.due("a took z", 1, x.heard(2, 1, 0));
        CHECK.due("none was lost", 0, x.lost(0, 0) + x.lost(0, 1) + x.lost(0, 2));
    }

    private static void inPorts(GapLinks x, int... ports) {
        for (int p = 0; p < 16; p++) {
            int due = 0;
            for (int q : ports) {
                due |= p == q ? 1 : 0;
            }
            for (int net = 0; net < 2; net++) {
                int got = x.port(net, p, 0);
                CHECK.due("time " + x.about(7) + ": port(" + net + ", " + p + ", 0)", due, Math.max(0, got));
            }
        }
    }

    private static void downAtSwitches() {
        GapLinks x = Check.bus(Check.THREE);
        x.send(0, 1);
        x.ticks(5);
        x.down(1, 1);
        // at 9 network 1 loses it at switch 1, but d hears it
        x.ticks(4);
        CHECK.due("lost(1, 1) at a further switch", 1, x.lost(1, 1));
        CHECK.due("lost(0, 1)", 0, x.lost(0, 1));
        CHECK.due("d heard it from network 1", 0, x.seen(0, 2, 1));
        CHECK.due("a double", 1, x.heard(0, 2, 2));
        x.ticks(20);
        CHECK.due("b heard none from network 1", -2, x.seen(0, 0, 1));
        CHECK.due("b took it from network 0", 0, x.heard(0, 0, 5));
        x.down(0, 1);
        x.down(1, 0);
        x.send(0, 1);
        x.ticks(20);
        CHECK.due("lost(0, 1) at its first switch", 1, x.lost(0, 1));
        CHECK.due("no credit went", 128, x.credit(0, 0));
        CHECK.due("b took the next from network 1", 1, x.heard(0, 0, 5));
        CHECK.due("its number", 1, x.heard(0, 0, 3));
    }

    private static void integrity() {
        GapLinks x = Check.bus(SHORT.replace("window 2", "window 100").replace("skew 60", "skew 999"));
        CHECK.due("SEEN none", -2, x.seen(0, 0, 0));
        sendEach(x, 1);
        CHECK.due("SEEN 0", 0, x.seen(0, 0, 1));
        x.down(1, 1);
        sendEach(x, 1);
        x.down(1, 0);
        sendEach(x, 1);
        CHECK.due("two ahead is no fault", 2, x.seen(0, 0, 1));
        CHECK.due("none refused", 0, x.heard(0, 0, 1));
        CHECK.due("doubles", 2, x.heard(0, 0, 2));
        x.down(1, 1);
        sendEach(x, 2);
        x.down(1, 0);
        sendEach(x, 1);
        CHECK.due("three ahead is refused", 1, x.heard(0, 0, 1));
        CHECK.due("it is SEEN all the same", 5, x.seen(0, 0, 1));
        CHECK.due("doubles stay", 2, x.heard(0, 0, 2));
        sendEach(x, 1);
        CHECK.due("the next is not refused", 1, x.heard(0, 0, 1));
        CHECK.due("it is a double", 3, x.heard(0, 0, 2));
        x.anew(0);
        sendEach(x, 1);
        CHECK.due("0 is never refused", 1, x.heard(0, 0, 1));
        CHECK.due("0 is SEEN", 0, x.seen(0, 0, 1));
        CHECK.due("0 is taken", 8, x.heard(0, 0, 0));
        CHECK.due("and once only", 4, x.heard(0, 0, 2));
    }

    /** Sends so many messages, each told only when the one ahead was heard. */
    private static void sendEach(GapLinks x, int n) {
        for (int k = 0; k < n; k++) {
            x.send(0, 1);
            x.ticks(8);
        }
    }

    private static void window() {
        // 0 is taken; 1 .. n lost in both networks; n + 1 is refused, n + 2 is so many ahead
        GapLinks x = behindLosses(SHORT.replace("window 2", "window 4"), 2);
        CHECK.due("4 ahead of 0 in a window of 4", 4, x.heard(0, 0, 3));
        CHECK.due("taken", 2, x.heard(0, 0, 0));
        CHECK.due("refused", 2, x.heard(0, 0, 1));
        CHECK.due("doubles", 2, x.heard(0, 0, 2));
        GapLinks y = behindLosses(SHORT.replace("window 2", "window 3"), 2);
        CHECK.due("4 ahead of 0 in a window of 3", 0, y.heard(0, 0, 3));
        CHECK.due("taken", 1, y.heard(0, 0, 0));
        CHECK.due("refused", 2, y.heard(0, 0, 1));
        CHECK.due("doubles", 3, y.heard(0, 0, 2));
    }

    private static GapLinks behindLosses(String text, int n) {
        GapLinks x = Check.bus(text);
        sendEach(x, 1);
        x.down(0, 1);
        x.down(1, 1);
        sendEach(x, n);
        x.down(0, 0);
        x.down(1, 0);
        sendEach(x, 2);
        return x;
    }

    private static void windowOverTheTop() {
        for (int window = 4; window <= 5; window++) {
            GapLinks x = Check.bus(SHORT.replace("window 2", "window " + window).replace("skew 60", "skew 999"));
            for (int k = 0; k < 254; k++) {
                x.send(0, 1);
                x.ticks(8);
            }
            CHECK.due("the latest", 253, x.heard(0, 0, 3));
            x.down(0, 1);
            x.down(1, 1);
            sendEach(x, 3);
            x.down(0, 0);
            x.down(1, 0);
            // 254, 255 and 1 are lost, 2 is refused, 3 is five ahead of 253
            sendEach(x, 2);
            CHECK.due("3 behind 253, window " + window, window == 5 ? 3 : 253, x.heard(0, 0, 3));
            CHECK.due("refused", 2, x.heard(0, 0, 1));
        }
    }

    private static void skew() {
        // 0 is taken at 5; 1 and 2 are lost, 3 is refused, 4 at 37 is out of the window
        String text = SHORT.replace("window 2", "window 1");
        GapLinks x = behindLosses(text.replace("skew 60", "skew 31"), 2);
        CHECK.due("4 comes 32 behind", 4, x.heard(0, 0, 3));
        CHECK.due("its time", 37, x.heard(0, 0, 4));
        GapLinks y = behindLosses(text.replace("skew 60", "skew 32"), 2);
        CHECK.due("32 behind is not more than 32", 0, y.heard(0, 0, 3));
        sendEach(y, 1);
        CHECK.due("40 behind is", 5, y.heard(0, 0, 3));
    }

    private static void zeroAgain() {
        GapLinks x = Check.bus(SHORT);
        sendEach(x, 1);
        x.anew(0);
        sendEach(x, 1);
        CHECK.due("0 behind 0 is a double", 1, x.heard(0, 0, 0));
        CHECK.due("doubles", 3, x.heard(0, 0, 2));
        x.ticks(60);
        x.anew(0);
        sendEach(x, 1);
        CHECK.due("0 behind 0 more than SKEW ago", 2, x.heard(0, 0, 0));
        sendEach(x, 1);
        CHECK.due("1 behind 0", 1, x.heard(0, 0, 3));
        x.anew(0);
        sendEach(x, 1);
        CHECK.due("0 behind 1", 0, x.heard(0, 0, 3));
        CHECK.due("taken", 4, x.heard(0, 0, 0));
    }

    private static void lateness() {
        GapLinks x = Check.bus(SHORT.replace("jitter 0", "jitter 400"));
        for (int what = 3; what < 8; what++) {
            CHECK.due(x, "heard(0, 0, " + what + ") of none", -2, x.heard(0, 0, what), 0);
        }
        CHECK.due("one is taken", 1, x.send(0, 1) + x.ticks(5) - 1);
        CHECK.due("time", 5, x.heard(0, 0, 4));
        CHECK.due("greatest", 4, x.heard(0, 0, 6));
        CHECK.due("least", 4, x.heard(0, 0, 7));
        x.babble(0, 2);
        // born at 5, sent at 6 and 8, there by 10 and 12
        CHECK.due("two are taken", 2, x.ticks(7));
        CHECK.due("greatest", 7, x.heard(0, 0, 6));
        CHECK.due("least", 4, x.heard(0, 0, 7));
        CHECK.due("time", 12, x.heard(0, 0, 4));
        CHECK.due("network", 0, x.heard(0, 0, 5));
        x.send(0, 1);
        x.ticks(8);
        CHECK.due("greatest stays", 7, x.heard(0, 0, 6));
    }

    private static void latestTen() {
        GapLinks x = Check.bus(SHORT);
        CHECK.refused(x, "taken of none", x.taken(0, 0, 0), 1);
        for (int n = 1; n <= 14; n++) {
            sendEach(x, 1);
            for (int k = 0; k < 12; k++) {
                boolean there = k < n && k < 10;
                CHECK.due(x, n + " taken: taken(0, 0, " + k + ")", there ? n - 1 - k : -1, x.taken(0, 0, k), there ? 0 : 1);
            }
        }
        CHECK.refused(x, "taken(0, 0, -1)", x.taken(0, 0, -1), 1);
    }
}
