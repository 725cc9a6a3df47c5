/** A bus that is as great as a text can tell it: every row of the class is used to its end. */
final class GreatestTest {
    private static final Check CHECK = new Check("GreatestTest");
    private static final int[] AT = {0, 1, 2, 2, 1, 0};

    public static void main(String[] args) {
        GapLinks x = Check.bus(greatest());
        CHECK.due("receivers", 24, x.size(1));
        for (int l = 0; l < 8; l++) {
            CHECK.due("named", 10 + l, x.named(Check.name("" + (char) ('p' + l))));
            CHECK.due("from", l % 6, x.link(l, 0));
            CHECK.due("receivers", 3, x.link(l, 3));
            for (int i = 0; i < 3; i++) {
                CHECK.due("receiver", (l + i + 1) % 6, x.receiver(l, i));
            }
            CHECK.due("silent", l, x.silent(l));
            CHECK.due("send", 1, x.send(l, 1));
        }
        alone(x);
        together();
        filled();
        lesser(x);
        CHECK.finish();
    }

    static String greatest() {
        StringBuilder text = new StringBuilder("bus switches 3 room 12 jitter 400 window 100 skew 999");
        for (int e = 0; e < 6; e++) {
            text.append(";end " + (char) ('a' + e) + " at " + AT[e]);
        }
        for (int l = 0; l < 8; l++) {
            text.append(";link " + (char) ('p' + l) + " from " + (char) ('a' + l % 6) + " gap 256 length " + (l + 1) + " to");
            for (int i = 1; i <= 3; i++) {
                text.append(" " + (char) ('a' + (l + i) % 6));
            }
        }
        return text.toString();
    }

    /** Each link on a bus of its own: a frame takes LENGTH on each port of its way. */
    private static void alone(GapLinks all) {
        for (int l = 0; l < 8; l++) {
            GapLinks x = Check.bus(greatest());
            x.send(l, 1);
            CHECK.due("taken by three", 3, x.ticks(100));
            for (int i = 0; i < 3; i++) {
                int ports = 2 + Math.abs(AT[l % 6] - AT[(l + i + 1) % 6]);
                CHECK.due("ports on the way", -1, all.way(l, i, ports));
                CHECK.due("the last of them", 6 + (l + i + 1) % 6, all.way(l, i, ports - 1));
                CHECK.due("late", ports * (l + 1), x.heard(l, i, 6));
                for (int net = 0; net < 2; net++) {
                    CHECK.due("seen", 0, x.seen(l, i, net));
                }
                CHECK.due("doubles", 1, x.heard(l, i, 2));
            }
        }
    }

    /** Messages of all links, a gap apart: every receiver takes every one, in time, as the envelopes promise. */
    private static void together() {
        GapLinks x = Check.bus(greatest());
        for (int l = 0; l < 8; l++) {
            x.send(l, 11 + l % 3);
        }
        for (int k = 0; k < 6; k++) {
            x.ticks(600);
        }
        CHECK.due("all is quiet", 0, x.quiet());
        CHECK.noSilent(x, 0);
        for (int l = 0; l < 8; l++) {
            int sent = 11 + l % 3;
            for (int net = 0; net < 2; net++) {
                CHECK.due("credit is at its most", (l + 1) * 656, x.credit(net, l));
                CHECK.due("policed", 0, x.policed(net, l));
            }
            for (int i = 0; i < 3; i++) {
                CHECK.due("taken", sent, x.heard(l, i, 0));
                CHECK.due("doubles", sent, x.heard(l, i, 2));
                CHECK.due("refused", 0, x.heard(l, i, 1));
                CHECK.due("keeps", 1, x.keeps(l, i));
                for (int k = 0; k < 10; k++) {
                    CHECK.due("taken(" + l + ", " + i + ", " + k + ")", sent - 1 - k, x.taken(l, i, k));
                }
            }
        }
    }

    /** Every END's port is filled by its own link, and holds just what came into it. */
    private static void filled() {
        GapLinks x = Check.bus(greatest());
        for (int l = 0; l < 6; l++) {
            CHECK.due("babble", 2 * (20 - 12), x.babble(l, 20));
        }
        CHECK.due("frames", 2 * 6 * 12, x.size(3));
        for (int net = 0; net < 2; net++) {
            for (int e = 0; e < 6; e++) {
                for (int i = 0; i < 12; i++) {
                    CHECK.due("link of a frame", e, x.frame(net, e, i, 0));
                    CHECK.due("number of a frame", i, x.frame(net, e, i, 1));
                }
            }
        }
        CHECK.due("an end without messages", 0, x.anew(5));
        x.ticks(600);
        CHECK.due("all is quiet", 0, x.quiet());
        for (int l = 0; l < 6; l++) {
            // the first price is 256 of 656, so two have credit enough, and one a while later for each 256 ticks
            CHECK.due("policed", 10, x.policed(1, l));
            CHECK.due("taken", 2, x.heard(l, 0, 0));
        }
    }

    /** A lesser bus behind the greatest has none of it left. */
    private static void lesser(GapLinks x) {
        x.babble(7, 20);
        x.ticks(50);
        Check.read(x, "bus switches 1 room 1 jitter 0 window 1 skew 1;end a at 0;end b at 0;link k from a gap 8 length 8 to b");
        CHECK.due("receivers", 1, x.size(1));
        CHECK.due("messages", 0, x.size(2));
        CHECK.due("frames", 0, x.size(3));
        CHECK.due("load", 1, x.load(0, false));
        CHECK.due("delay", 8, x.delay(0, false));
        CHECK.due("bound", 16, x.bound(0, 0, false));
        CHECK.due("through", 1, x.through(7));
        CHECK.due("least gap", 8, x.leastGap(0));
        CHECK.due("an end of the greatest", -1, x.at(2));
        CHECK.due("named", -1, x.named(Check.name("p")));
        x.send(0, 1);
        CHECK.due("one receiver", 1, x.ticks(20));
        CHECK.noSilent(x, 0);
    }
}
