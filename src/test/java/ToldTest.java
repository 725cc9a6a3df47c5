/** Promises 6 to 11 and 39 to 41: what the text told, and what is told. */
final class ToldTest {
    private static final Check CHECK = new Check("ToldTest");

    public static void main(String[] args) {
        about();
        endsAndLinks();
        names();
        ways();
        silent();
        sizes();
        trouble();
        CHECK.finish();
    }

    private static void about() {
        GapLinks x = Check.bus(Check.THREE);
        int[] due = {3, 4, 16, 5, 100, 4, 3, 0};
        for (int what = 0; what < due.length; what++) {
            CHECK.due(x, "about(" + what + ")", due[what], x.about(what), 0);
        }
        CHECK.refused(x, "about(-1)", x.about(-1), 1);
        CHECK.refused(x, "about(8)", x.about(8), 1);
        x.ticks(600);
        x.ticks(1);
        CHECK.due("about(7)", 601, x.about(7));
    }

    private static void endsAndLinks() {
        GapLinks x = Check.bus(Check.THREE);
        int[] at = {0, 1, 2, 0};
        for (int e = 0; e < 4; e++) {
            CHECK.due(x, "at(" + e + ")", at[e], x.at(e), 0);
        }
        CHECK.refused(x, "at(4)", x.at(4), 1);
        CHECK.refused(x, "at(-1)", x.at(-1), 1);
        int[][] link = {{0, 16, 4, 3}, {2, 32, 8, 1}, {1, 64, 3, 2}};
        for (int l = 0; l < 3; l++) {
            for (int what = 0; what < 4; what++) {
                CHECK.due(x, "link(" + l + ", " + what + ")", link[l][what], x.link(l, what), 0);
            }
        }
        CHECK.refused(x, "link(3, 0)", x.link(3, 0), 1);
        CHECK.refused(x, "link(-1, 0)", x.link(-1, 0), 1);
        CHECK.refused(x, "link(0, 4)", x.link(0, 4), 1);
        CHECK.refused(x, "link(0, -1)", x.link(0, -1), 1);
        int[][] to = {{1, 2, 3}, {0}, {2, 0}};
        for (int l = 0; l < 3; l++) {
            for (int i = 0; i < to[l].length; i++) {
                CHECK.due(x, "receiver(" + l + ", " + i + ")", to[l][i], x.receiver(l, i), 0);
            }
            CHECK.refused(x, "receiver(" + l + ", many)", x.receiver(l, to[l].length), 1);
        }
        CHECK.refused(x, "receiver(0, -1)", x.receiver(0, -1), 1);
        CHECK.refused(x, "receiver(3, 0)", x.receiver(3, 0), 1);
    }

    private static void names() {
        GapLinks x = Check.bus("bus switches 1 room 1 jitter 0 window 1 skew 1;end abcdefgh at 0;end z at 0;"
                + "link abcdefg from z gap 8 length 1 to abcdefgh;link at from z gap 8 length 1 to abcdefgh");
        CHECK.due(x, "named abcdefgh", 0, x.named(Check.name("abcdefgh")), 0);
        CHECK.due(x, "named z", 1, x.named(Check.name("z")), 0);
        CHECK.due(x, "named abcdefg", 10, x.named(Check.name("abcdefg")), 0);
        CHECK.due(x, "named at", 11, x.named(Check.name("at")), 0);
        CHECK.refused(x, "named abc", x.named(Check.name("abc")), 1);
        CHECK.refused(x, "named bus", x.named(Check.name("bus")), 1);
        CHECK.refused(x, "named with zeros behind", x.named(0x7a00000000000000L), 1);
        CHECK.refused(x, "named with blanks ahead", x.named(Check.name(" z")), 1);
        CHECK.refused(x, "named 0", x.named(0), 1);
        CHECK.refused(x, "named blanks", x.named(Check.name("")), 1);
        CHECK.refused(x, "named -1", x.named(-1), 1);
    }

    private static void ways() {
        GapLinks x = Check.bus(Check.THREE);
        way(x, 0, 0, 0, 12, 7);
        way(x, 0, 1, 0, 12, 13, 8);
        way(x, 0, 2, 0, 9);
        way(x, 1, 0, 2, 15, 14, 6);
        way(x, 2, 0, 1, 13, 8);
        way(x, 2, 1, 1, 14, 6);
        CHECK.refused(x, "way(3, 0, 0)", x.way(3, 0, 0), 1);
        CHECK.refused(x, "way(1, 1, 0)", x.way(1, 1, 0), 1);
        CHECK.refused(x, "way(0, 0, -1)", x.way(0, 0, -1), 1);
    }

    private static void way(GapLinks x, int l, int i, int... ports) {
        for (int k = 0; k < ports.length; k++) {
            CHECK.due(x, "way(" + l + ", " + i + ", " + k + ")", ports[k], x.way(l, i, k), 0);
        }
        CHECK.refused(x, "way(" + l + ", " + i + ", end)", x.way(l, i, ports.length), 1);
    }

    private static void silent() {
        GapLinks x = Check.bus(Check.THREE);
        for (int l = 0; l < 3; l++) {
            CHECK.due("silent(" + l + ")", l, x.silent(l));
        }
        CHECK.noSilent(x, 3);
        CHECK.noSilent(x, -1);
        CHECK.noSilent(x, Integer.MAX_VALUE);
        CHECK.noSilent(x, Integer.MIN_VALUE);
        x.send(0, 1);
        // born at 1, at d by 9, at b by 13, at c by 17
        x.ticks(16);
        CHECK.due("d and b took", 1, x.heard(0, 2, 0) + x.heard(0, 0, 0) - 1);
        CHECK.due("silent(0), c took none", 0, x.silent(0));
        x.ticks(1);
        CHECK.due("silent(0), all took", 1, x.silent(0));
        CHECK.due("silent(1), all took", 2, x.silent(1));
        CHECK.noSilent(x, 2);
        x.at(77);
        x.silent(0);
        CHECK.due("silent() is never refused by a number", 1, x.trouble());
    }

    private static void sizes() {
        GapLinks x = Check.bus(Check.THREE);
        CHECK.due("size(1)", 6, x.size(1));
        x.send(0, 5);
        x.send(2, 2);
        CHECK.due("size(2)", 7, x.size(2));
        CHECK.due("size(3)", 0, x.size(3));
        x.babble(1, 3);
        CHECK.due("size(3) of both networks", 6, x.size(3));
        x.ticks(1);
        CHECK.due("size(2) behind a tick", 5, x.size(2));
        CHECK.due("size(3) behind a tick", 10, x.size(3));
        x.feed(0, 0, 0, 0, 0);
        CHECK.due("size(0)", 20, x.size(0));
        CHECK.due("size(4)", 0, x.size(4));
        x.keep();
        CHECK.due("size(4) with something kept", 1, x.size(4));
        x.at(77);
        CHECK.due(x, "size(5)", -1, x.size(5), 1);
        CHECK.due(x, "size(-1)", -1, x.size(-1), 1);
        CHECK.due(x, "size(0)", 20, x.size(0), 1);
    }

    private static void trouble() {
        GapLinks x = Check.bus(Check.THREE);
        CHECK.due("trouble()", 0, x.trouble());
        x.send(7, 99);
        CHECK.due("none such goes ahead of a number", 1, x.trouble());
        x.send(0, 99);
        CHECK.due("a number", 2, x.trouble());
        x.send(0, 16);
        x.send(0, 1);
        CHECK.due("no room", 3, x.trouble());
        x.bus(0);
        CHECK.due("a fault", 4, x.trouble());
        x.fault();
        x.where();
        x.size(0);
        x.trouble();
        x.feed(0, 0, 0, 0, 0);
        CHECK.due("it stays", 4, x.trouble());
        x.at(0);
        CHECK.due("it goes", 0, x.trouble());
        x.back();
        CHECK.due("back()", 1, x.trouble());
        x.keep();
        CHECK.due("keep()", 0, x.trouble());
    }
}
