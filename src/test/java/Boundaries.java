import java.lang.reflect.InvocationTargetException;
import java.lang.reflect.Method;
import java.util.ArrayList;
import java.util.Comparator;
import java.util.List;

/** What the boundary tests share: running each sentence's test by itself, and small buses to run them on. */
final class Boundaries {
    /** One call with one of its numbers left open. */
    interface Asked {
        long of(int n);
    }

    private Boundaries() {
    }

    /** The tests of a class, one for each sentence, in the order of the promises. */
    static List<Method> testsOf(Class<?> tests) {
        List<Method> all = new ArrayList<>();
        for (Method method : tests.getDeclaredMethods()) {
            if (method.isAnnotationPresent(Sentence.class)) {
                all.add(method);
            }
        }
        all.sort(Comparator.comparing((Method m) -> m.getAnnotation(Sentence.class).promise())
                .thenComparing(Method::getName));
        return all;
    }

    static void run(Class<?> tests) throws IllegalAccessException {
        Check check = new Check(tests.getSimpleName());
        for (Method test : testsOf(tests)) {
            Sentence sentence = test.getAnnotation(Sentence.class);
            check.about(test.getName() + " (promise " + sentence.promise() + ": \"" + sentence.says() + "\")");
            int before = check.calls();
            try {
                test.invoke(null, check);
            } catch (InvocationTargetException e) {
                check.due("the test, thrown out by " + e.getCause(), 0, 1);
            }
            check.due("the test looked at some answer", true, check.calls() > before);
        }
        System.out.println(tests.getSimpleName() + ": " + testsOf(tests).size() + " sentences");
        check.finish();
    }

    /** A number just too small, one just too large, and the least and the greatest that there are. */
    static int[] outside(int least, int most) {
        return new int[] {Integer.MIN_VALUE, least - 1, most + 1, Integer.MAX_VALUE};
    }

    /** The call is refused so with each of these numbers. */
    static void refused(Check check, GapLinks x, String call, int why, Asked asked, int... numbers) {
        for (int n : numbers) {
            check.refused(x, call + " with " + n, asked.of(n), why);
        }
    }

    /** Two ends, a and b, at one switch, and a link k from a to b. */
    static String one(int room, int jitter, int window, int skew, int gap, int length) {
        return "bus switches 1 room " + room + " jitter " + jitter + " window " + window + " skew " + skew
                + ";end a at 0;end b at 0;link k from a gap " + gap + " length " + length + " to b";
    }

    /** The least of all that a text can tell. */
    static String least() {
        return one(1, 0, 1, 1, 8, 1);
    }

    /**
     * A link k of gap 8 and length 1: its frames are at the switch 1 tick, at b 2 ticks behind that in which they are
     * born, and have credit enough if they are 8 ticks apart.
     */
    static GapLinks quick(int window, int skew) {
        return Check.bus(one(12, 0, window, skew, 8, 1));
    }

    /** So many messages of link 0, of a quick bus, are sent one gap apart and heard. */
    static void sendAndHear(GapLinks x, int messages) {
        for (int left = messages; left > 0; left -= 16) {
            int some = Math.min(16, left);
            x.send(0, some);
            x.ticks(8 * some);
        }
    }

    /** So many messages of link 0, of a quick bus, are lost in both networks, which are not down behind that. */
    static void loseInBoth(GapLinks x, int messages) {
        x.down(0, 1);
        x.down(1, 1);
        sendAndHear(x, messages);
        x.down(0, 0);
        x.down(1, 0);
    }

    /** All answers on the only link of a small bus, on both networks and on what is kept: under 200 calls. */
    static String all(GapLinks x) {
        StringBuilder all = new StringBuilder();
        for (int what = 0; what < 8; what++) {
            all.append(' ').append(x.about(what)).append(' ').append(x.heard(0, 0, what));
        }
        for (int what = 0; what < 5; what++) {
            all.append(' ').append(x.size(what)).append(' ').append(x.waits(0, what));
        }
        for (int k = 0; k < 3; k++) {
            all.append(' ').append(x.taken(0, 0, k)).append(' ').append(x.lost(0, k)).append(' ').append(x.lost(1, k));
        }
        for (int net = 0; net < 2; net++) {
            all.append(' ').append(x.credit(net, 0)).append(' ').append(x.policed(net, 0));
            all.append(' ').append(x.seen(0, 0, net));
            for (int p : new int[] {0, 7}) {
                for (int what = 0; what < 4; what++) {
                    all.append(' ').append(x.port(net, p, what));
                }
                int frames = x.port(net, p, 0);
                for (int i = 0; i < frames; i++) {
                    all.append(' ').append(x.frame(net, p, i, 1)).append(' ').append(x.frame(net, p, i, 2));
                }
            }
        }
        return all.toString();
    }
}
