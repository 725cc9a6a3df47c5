/** Promises 21 to 28: loads, delays, bursts and bounds. */
final class EnvelopeTest {
    private static final Check CHECK = new Check("EnvelopeTest");

    public static void main(String[] args) {
        loads();
        delays();
        deepFractions();
        overloaded();
        keeps();
        fullest();
        leastGap();
        through();
        CHECK.finish();
    }

    private static void fraction(GapLinks x, String call, long upper, long lower, long gotUpper, long gotLower) {
        CHECK.due(x, call, upper, gotUpper, 0);
        CHECK.due(call + ", lower", lower, gotLower);
    }

    private static void load(GapLinks x, int p, long upper, long lower) {
        fraction(x, "load(" + p + ")", upper, lower, x.load(p, false), x.load(p, true));
    }

    private static void delay(GapLinks x, int p, long upper, long lower) {
        fraction(x, "delay(" + p + ")", upper, lower, x.delay(p, false), x.delay(p, true));
    }

    private static void burst(GapLinks x, int l, int i, int k, long upper, long lower) {
        fraction(x, "burst(" + l + ", " + i + ", " + k + ")", upper, lower, x.burst(l, i, k, false),
                x.burst(l, i, k, true));
    }

    private static void bound(GapLinks x, int l, int i, long upper, long lower) {
        fraction(x, "bound(" + l + ", " + i + ")", upper, lower, x.bound(l, i, false), x.bound(l, i, true));
    }

    private static void loads() {
        GapLinks x = Check.bus(Check.THREE);
        load(x, 0, 1, 4);
        load(x, 1, 3, 64);
        load(x, 2, 1, 4);
        load(x, 3, 0, 1);
        load(x, 6, 19, 64);
        load(x, 8, 19, 64);
        load(x, 12, 1, 4);
        load(x, 13, 19, 64);
        load(x, 14, 19, 64);
        load(x, 15, 1, 4);
        for (int p : new int[] {-1, 4, 5, 10, 11, 16, 99, Integer.MIN_VALUE, Integer.MAX_VALUE}) {
            CHECK.refused(x, "load(" + p + ")", x.load(p, false), 1);
            CHECK.refused(x, "load(" + p + "), lower", x.load(p, true), 1);
            CHECK.refused(x, "delay(" + p + ")", x.delay(p, false), 1);
            CHECK.refused(x, "through(" + p + ")", x.through(p), 1);
        }
        GapLinks full = Check.bus("bus switches 1 room 1 jitter 0 window 1 skew 1;end a at 0;end b at 0;"
                + "link k from a gap 8 length 8 to b");
        load(full, 0, 1, 1);
        load(full, 6, 0, 1);
        delay(full, 0, 8, 1);
        CHECK.due("fullest(), the first of all", 0, full.fullest());
        full.at(99);
        CHECK.due(full, "load behind a refusal", 1, full.load(0, false), 0);
    }

    private static void delays() {
        // bursts behind the first switch: x 4 + 4*16/16 = 8, y 8 + 8*16/32 = 12, z 3 + 3*16/64 = 15/4
        GapLinks x = Check.bus(Check.THREE);
        delay(x, 0, 4, 1);
        delay(x, 1, 3, 1);
        delay(x, 2, 8, 1);
        delay(x, 3, 0, 1);
        delay(x, 9, 8, 1);
        delay(x, 12, 8, 1);
        delay(x, 15, 12, 1);
        burst(x, 0, 0, 1, 8, 1);
        burst(x, 0, 2, 1, 8, 1);
        burst(x, 0, 0, 2, 10, 1);
        burst(x, 0, 1, 2, 10, 1);
        burst(x, 2, 0, 1, 15, 4);
        delay(x, 7, 10, 1);
        delay(x, 13, 55, 4);
        burst(x, 1, 0, 1, 12, 1);
        burst(x, 1, 0, 2, 15, 1);
        delay(x, 14, 75, 4);
        // at c: x 10 + 55/16 = 215/16, z 15/4 + 3/64*55/4 = 1125/256
        burst(x, 0, 1, 3, 215, 16);
        burst(x, 2, 0, 2, 1125, 256);
        delay(x, 8, 4565, 256);
        // at a: y 15 + 75/16 = 315/16, z 15/4 + 3/64*75/4 = 1185/256
        burst(x, 1, 0, 3, 315, 16);
        burst(x, 2, 1, 2, 1185, 256);
        delay(x, 6, 6225, 256);
        bound(x, 0, 0, 22, 1);
        bound(x, 0, 1, 4 * 256 + 8 * 256 + 55 * 64 + 4565, 256);
        bound(x, 0, 2, 12, 1);
        bound(x, 1, 0, 8 * 256 + 12 * 256 + 75 * 64 + 6225, 256);
        bound(x, 2, 1, 3 * 256 + 75 * 64 + 6225, 256);
        int[][] none = {{0, 0, 0}, {0, 0, 3}, {0, 1, 4}, {0, 0, -1}, {0, 3, 1}, {0, -1, 1}, {3, 0, 1}, {-1, 0, 1},
            {1, 1, 1}, {0, 0, Integer.MAX_VALUE}};
        for (int[] n : none) {
            CHECK.refused(x, "burst of none such", x.burst(n[0], n[1], n[2], false), 1);
        }
        CHECK.refused(x, "bound(3, 0)", x.bound(3, 0, false), 1);
        CHECK.refused(x, "bound(0, 3)", x.bound(0, 3, true), 1);
        CHECK.refused(x, "bound(-1, 0)", x.bound(-1, 0, true), 1);
        CHECK.refused(x, "bound(0, -1)", x.bound(0, -1, true), 1);
        CHECK.refused(x, "keeps(3, 0)", x.keeps(3, 0), 1);
        CHECK.refused(x, "keeps(0, 3)", x.keeps(0, 3), 1);
    }

    private static void deepFractions() {
        // gap 256, length 1, jitter 1: 257/256; then delay/256 more at each further port
        GapLinks x = Check.bus("bus switches 3 room 1 jitter 1 window 1 skew 1;end a at 0;end b at 2;"
                + "link k from a gap 256 length 1 to b");
        burst(x, 0, 0, 1, 257, 256);
        burst(x, 0, 0, 2, 257 * 257, 65536);
        burst(x, 0, 0, 3, 257L * 257 * 257, 16777216);
        delay(x, 7, 257L * 257 * 257, 16777216);
        bound(x, 0, 0, 16777216L + 257 * 65536 + 257 * 257 * 256 + 257 * 257 * 257, 16777216);
    }

    private static void overloaded() {
        GapLinks x = Check.bus("bus switches 2 room 12 jitter 0 window 1 skew 1;end a at 0;end b at 1;end c at 1;"
                + "link k from a gap 8 length 8 to b;link m from c gap 256 length 1 to b;link n from c gap 8 length 1 to a");
        load(x, 7, 257, 256);
        load(x, 14, 1, 8);
        CHECK.refused(x, "delay(14)", x.delay(14, false), 5);
        CHECK.refused(x, "delay(0)", x.delay(0, true), 5);
        CHECK.refused(x, "delay(13)", x.delay(13, false), 1);
        CHECK.refused(x, "burst(2, 0, 1)", x.burst(2, 0, 1, false), 5);
        CHECK.refused(x, "burst(2, 0, 0)", x.burst(2, 0, 0, false), 1);
        CHECK.refused(x, "burst(2, 0, 3)", x.burst(2, 0, 3, false), 1);
        CHECK.refused(x, "bound(2, 0)", x.bound(2, 0, false), 5);
        CHECK.refused(x, "bound(2, 1)", x.bound(2, 1, false), 1);
        CHECK.refused(x, "keeps(2, 0)", x.keeps(2, 0), 5);
        CHECK.refused(x, "keeps(2, 1)", x.keeps(2, 1), 1);
        CHECK.due(x, "fullest()", 7, x.fullest(), 0);
        CHECK.due(x, "through(7)", 3, x.through(7), 0);
        Check.read(x, Check.THREE);
        delay(x, 0, 4, 1);
    }

    private static void keeps() {
        String text = "bus switches 1 room 12 jitter 3 window 2 skew 99;end a at 0;end b at 0;"
                + "link k from a gap 8 length 2 to b";
        // bound: 2 + 2 + 2*3/8 = 19/4
        GapLinks x = Check.bus(text);
        bound(x, 0, 0, 19, 4);
        CHECK.due(x, "keeps(0, 0), none taken", 1, x.keeps(0, 0), 0);
        x.send(0, 1);
        x.ticks(5);
        CHECK.due("late", 4, x.heard(0, 0, 6));
        CHECK.due("4 is no more than 19/4", 1, x.keeps(0, 0));
        x.ticks(20);
        x.babble(0, 1);
        x.ticks(20);
        CHECK.due("late", 5, x.heard(0, 0, 6));
        CHECK.due("5 is more than 19/4", 0, x.keeps(0, 0));
        GapLinks y = Check.bus(text.replace("jitter 3", "jitter 4"));
        bound(y, 0, 0, 5, 1);
        y.babble(0, 1);
        y.ticks(20);
        CHECK.due("late", 5, y.heard(0, 0, 6));
        CHECK.due("5 is no more than 5", 1, y.keeps(0, 0));
    }

    private static void fullest() {
        GapLinks x = Check.bus(Check.THREE);
        CHECK.due(x, "fullest()", 6, x.fullest(), 0);
        GapLinks y = Check.bus("bus switches 2 room 1 jitter 0 window 1 skew 1;end a at 0;end b at 1;end c at 1;"
                + "link k from c gap 8 length 1 to a;link m from b gap 8 length 1 to a");
        CHECK.due("fullest(), of several the first", 6, y.fullest());
        GapLinks z = Check.bus("bus switches 2 room 1 jitter 0 window 1 skew 1;end a at 0;end b at 1;end c at 1;"
                + "link k from c gap 8 length 1 to b;link m from b gap 8 length 1 to c");
        CHECK.due("fullest(), of several the first", 1, z.fullest());
        GapLinks trunk = Check.bus("bus switches 3 room 1 jitter 0 window 1 skew 1;end a at 2;end b at 2;end c at 1;"
                + "end d at 1;link k from a gap 8 length 1 to c;link m from b gap 8 length 1 to d");
        CHECK.due("fullest() between switches", 15, trunk.fullest());
    }

    private static void leastGap() {
        GapLinks x = Check.bus("bus switches 1 room 1 jitter 0 window 1 skew 1;end a at 0;end b at 0;end c at 0;"
                + "link k from a gap 128 length 9 to b;link m from a gap 16 length 8 to c;link n from b gap 8 length 8 to c");
        CHECK.due(x, "leastGap(0), another port is above 1", -2, x.leastGap(0), 0);
        CHECK.due("leastGap(1), none", -2, x.leastGap(1));
        CHECK.due("leastGap(2): 8/16 and 1/2", 16, x.leastGap(2));
        GapLinks y = Check.bus("bus switches 1 room 1 jitter 0 window 1 skew 1;end a at 0;end b at 0;end c at 0;"
                + "link k from a gap 256 length 40 to b;link m from a gap 16 length 8 to c");
        CHECK.due("leastGap(0): 40/64 and 1/2 is above 1", 128, y.leastGap(0));
        CHECK.due("leastGap(1): 8/8 and 40/256 is above 1", 16, y.leastGap(1));
        GapLinks u = Check.bus("bus switches 1 room 1 jitter 0 window 1 skew 1;end a at 0;end b at 0;end c at 0;"
                + "link k from a gap 256 length 40 to b;link m from a gap 256 length 1 to c;link n from a gap 16 length 13 to c");
        CHECK.due("leastGap(0): 40/256, 1/256 and 208/256", 256, u.leastGap(0));
        GapLinks z = Check.bus("bus switches 1 room 1 jitter 0 window 1 skew 1;end a at 0;end b at 0;"
                + "link k from a gap 256 length 40 to b");
        CHECK.due("leastGap(0), LENGTH at least", 64, z.leastGap(0));
        GapLinks w = Check.bus("bus switches 1 room 1 jitter 0 window 1 skew 1;end a at 0;end b at 0;"
                + "link k from a gap 16 length 8 to b;link m from a gap 16 length 8 to b");
        CHECK.due("leastGap(0), just 1", 16, w.leastGap(0));
        GapLinks v = Check.bus("bus switches 1 room 1 jitter 0 window 1 skew 1;end a at 0;end b at 0;"
                + "link k from a gap 64 length 8 to b");
        CHECK.due("leastGap(0), LENGTH itself", 8, v.leastGap(0));
        CHECK.due("link(0, 1) stays", 64, v.link(0, 1));
        CHECK.refused(v, "leastGap(1)", v.leastGap(1), 1);
        CHECK.refused(v, "leastGap(-1)", v.leastGap(-1), 1);
    }

    private static void through() {
        GapLinks x = Check.bus(Check.THREE);
        int[] due = {1, 4, 2, 0, -1, -1, 6, 1, 5, 1, -1, -1, 1, 5, 6, 2};
        for (int p = 0; p < 16; p++) {
            CHECK.due(x, "through(" + p + ")", due[p], x.through(p), due[p] < 0 ? 1 : 0);
        }
    }
}
