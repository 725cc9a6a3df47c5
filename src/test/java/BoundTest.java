import java.util.Random;

/** What the document says of BOUND: no frame of a link whose end never babbled is taken later, whatever others do. */
final class BoundTest {
    private static final Check CHECK = new Check("BoundTest");
    private static int atBound = 0;

    public static void main(String[] args) {
        for (int seed = 0; seed < 3000; seed++) {
            run(new Random(seed));
        }
        CHECK.due("bounds that were reached were met", true, atBound > 0);
        CHECK.finish();
    }

    private static void run(Random random) {
        GapLinks x = Check.bus(RandomText.text(random));
        x.delay(0, false);
        if (x.trouble() == 5) {
            return;
        }
        int links = x.about(6);
        int babbler = random.nextInt(x.about(5) + 1);
        for (int k = 0; k < 60; k++) {
            int l = random.nextInt(links);
            if (x.link(l, 0) == babbler && random.nextBoolean()) {
                x.babble(l, 1 + random.nextInt(20));
            } else {
                x.send(l, 1 + random.nextInt(4));
            }
            if (random.nextInt(20) == 0) {
                x.down(random.nextInt(2), random.nextInt(2));
            }
            x.ticks(1 + random.nextInt(random.nextBoolean() ? 3 : 40));
        }
        x.ticks(600);
        for (int l = 0; l < links; l++) {
            for (int i = 0; i < x.link(l, 3) && x.link(l, 0) != babbler; i++) {
                CHECK.due("keeps(" + l + ", " + i + ")", 1, x.keeps(l, i));
                atBound += x.heard(l, i, 6) * x.bound(l, i, true) == x.bound(l, i, false) ? 1 : 0;
            }
        }
    }
}
