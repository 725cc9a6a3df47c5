import java.util.Arrays;
import java.util.NoSuchElementException;
import java.util.Random;

/** Runs of calls drawn at random, the same at each run of the test, on GapLinks and on PlainBus: all answers are alike. */
final class RandomRunsTest {
    private static final int RUNS = 2000;
    private static final int CALLS = 300;
    /** What an object answers behind so many calls is free. */
    private static final int PROMISED = 512;
    private static final String[] ASKS = {"fault", "where", "about", "at", "link", "receiver", "named", "way", "waits",
        "credit", "port", "frame", "lost", "policed", "heard", "seen", "taken", "load", "delay", "burst", "bound",
        "keeps", "fullest", "leastGap", "through", "willHear", "willLose", "quiet", "silent", "size", "trouble"};
    private static final String[] ACTS = {"send", "send", "send", "babble", "down", "anew", "ticks", "ticks", "ticks",
        "ticks", "keep", "back"};

    private final Random random;
    private final Check check;
    private GapLinks x = new GapLinks();
    private PlainBus plain = new PlainBus();
    private String history = "";
    private int calls = 0;

    private RandomRunsTest(long seed, Check check) {
        this.random = new Random(seed);
        this.check = check;
    }

    public static void main(String[] args) {
        Check check = new Check("RandomRunsTest");
        for (int run = 0; run < RUNS; run++) {
            new RandomRunsTest(run, check).run();
        }
        check.finish();
    }

    private void run() {
        int left = CALLS;
        if (random.nextInt(8) == 0) {
            left -= someCalls(20);
        }
        while (left > 0) {
            String text = RandomText.text(random);
            if (random.nextInt(3) == 0) {
                text = RandomText.spoil(random, text);
            }
            put(text);
            int stretch = random.nextInt(4) == 0 ? 20 : 250;
            left -= 40 + someCalls(Math.max(1, Math.min(left, stretch)));
        }
    }

    private void put(String text) {
        for (int k = 0; k < text.length() && k < 900; k += 20) {
            String twenty = (text + " ".repeat(20)).substring(k, k + 20);
            call("feed", Check.four(twenty, 0), Check.four(twenty, 4), Check.four(twenty, 8), Check.four(twenty, 12),
                    Check.four(twenty, 16));
        }
        call("bus", random.nextInt(30) == 0 ? random.nextInt(950) - 20 : text.length());
        call("trouble");
        call("fault");
        call("where");
    }

    private int someCalls(int n) {
        for (int k = 0; k < n; k++) {
            if (random.nextInt(3) == 0) {
                String act = ACTS[random.nextInt(ACTS.length)];
                call(act, arguments(act));
            } else {
                String ask = ASKS[random.nextInt(ASKS.length)];
                call(ask, arguments(ask));
            }
            call("trouble");
        }
        return n;
    }

    private long some(int most) {
        int odd = random.nextInt(150);
        if (odd < 3) {
            return odd == 0 ? -1 : odd == 1 ? most + 1 : random.nextInt();
        }
        return random.nextInt(most + 1);
    }

    private long l() {
        return random.nextInt(3) == 0 ? some(8) : some(2);
    }

    private long i() {
        return random.nextInt(3) == 0 ? some(2) : some(0);
    }

    private long[] arguments(String name) {
        switch (name) {
            case "about": return new long[] {some(7)};
            case "at": case "anew": return new long[] {some(5)};
            case "link": return new long[] {l(), some(3)};
            case "receiver": case "keeps": return new long[] {l(), i()};
            case "named": return new long[] {Check.name(random.nextInt(9) == 0 ? "a b" : RandomText.name(random))};
            case "way": return new long[] {l(), i(), some(4)};
            case "waits": return new long[] {l(), some(4)};
            case "credit": case "policed": return new long[] {some(1), l()};
            case "port": return new long[] {some(1), some(15), some(3)};
            case "frame": return new long[] {some(1), some(15), random.nextInt(4), some(2)};
            case "lost": return new long[] {some(1), some(2)};
            case "heard": return new long[] {l(), i(), some(7)};
            case "seen": return new long[] {l(), i(), some(1)};
            case "taken": return new long[] {l(), i(), some(10)};
            case "load": case "delay": return new long[] {some(15), random.nextInt(2)};
            case "burst": return new long[] {l(), i(), some(4), random.nextInt(2)};
            case "bound": return new long[] {l(), i(), random.nextInt(2)};
            case "leastGap": return new long[] {l()};
            case "through": return new long[] {some(15)};
            case "send": return new long[] {l(), some(random.nextInt(2) == 0 ? 3 : 17)};
            case "babble": return new long[] {l(), some(random.nextInt(2) == 0 ? 3 : 21)};
            case "down": return new long[] {some(1), random.nextInt(9) == 0 ? some(2) : random.nextInt(3) / 2};
            case "ticks": return new long[] {some(random.nextInt(5) == 0 ? 601 : random.nextInt(2) == 0 ? 5 : 60)};
            case "willHear": return new long[] {some(random.nextInt(4) == 0 ? 601 : 50), l(), i(), some(7)};
            case "willLose": return new long[] {some(random.nextInt(4) == 0 ? 601 : 50), some(1), some(2)};
            case "silent": return new long[] {some(3)};
            case "size": return new long[] {some(5)};
            default: return new long[0];
        }
    }

    private void call(String name, long... a) {
        calls++;
        if (calls > PROMISED) {
            return;
        }
        long want = plain.call(name, a);
        long got = ask(name, a);
        String told = name + Arrays.toString(a);
        history = history.length() > 3000 ? history.substring(1500) + told : history + told;
        check.due(want == got ? name : "behind ... " + history, want, got);
    }

    private long ask(String name, long[] a) {
        int[] n = new int[5];
        for (int k = 0; k < a.length; k++) {
            n[k] = (int) a[k];
        }
        switch (name) {
            case "feed": return x.feed(n[0], n[1], n[2], n[3], n[4]);
            case "bus": return x.bus(n[0]);
            case "fault": return x.fault();
            case "where": return x.where();
            case "about": return x.about(n[0]);
            case "at": return x.at(n[0]);
            case "link": return x.link(n[0], n[1]);
            case "receiver": return x.receiver(n[0], n[1]);
            case "named": return x.named(a[0]);
            case "way": return x.way(n[0], n[1], n[2]);
            case "waits": return x.waits(n[0], n[1]);
            case "credit": return x.credit(n[0], n[1]);
            case "port": return x.port(n[0], n[1], n[2]);
            case "frame": return x.frame(n[0], n[1], n[2], n[3]);
            case "lost": return x.lost(n[0], n[1]);
            case "policed": return x.policed(n[0], n[1]);
            case "heard": return x.heard(n[0], n[1], n[2]);
            case "seen": return x.seen(n[0], n[1], n[2]);
            case "taken": return x.taken(n[0], n[1], n[2]);
            case "load": return x.load(n[0], n[1] == 1);
            case "delay": return x.delay(n[0], n[1] == 1);
            case "burst": return x.burst(n[0], n[1], n[2], n[3] == 1);
            case "bound": return x.bound(n[0], n[1], n[2] == 1);
            case "keeps": return x.keeps(n[0], n[1]);
            case "fullest": return x.fullest();
            case "leastGap": return x.leastGap(n[0]);
            case "through": return x.through(n[0]);
            case "send": return x.send(n[0], n[1]);
            case "babble": return x.babble(n[0], n[1]);
            case "down": return x.down(n[0], n[1]);
            case "anew": return x.anew(n[0]);
            case "ticks": return x.ticks(n[0]);
            case "willHear": return x.willHear(n[0], n[1], n[2], n[3]);
            case "willLose": return x.willLose(n[0], n[1], n[2]);
            case "quiet": return x.quiet();
            case "keep": return x.keep() ? 1 : 0;
            case "back": return x.back() ? 1 : 0;
            case "silent": return silent(n[0]);
            case "size": return x.size(n[0]);
            default: return x.trouble();
        }
    }

    private long silent(int i) {
        try {
            return x.silent(i);
        } catch (NoSuchElementException e) {
            return -999;
        }
    }
}
