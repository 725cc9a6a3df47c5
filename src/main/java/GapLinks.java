import java.util.Arrays;
import java.util.NoSuchElementException;

/** A bus of virtual links on two networks; the document ../shared/DOC.md tells what each call answers. */
public final class GapLinks {
    public static final int NONE = -1;

    private static final int NOT_YET = -2;

    private static final int NO_TROUBLE = 0;
    private static final int NONE_SUCH = 1;
    private static final int A_NUMBER = 2;
    private static final int NO_ROOM = 3;
    private static final int A_FAULT = 4;
    private static final int NOT_SO = 5;

    private static final int TAPE_ROOM = 900;
    private static final int FED_AT_ONCE = 20;

    private static final int MAX_SWITCHES = 3;
    private static final int MAX_ENDS = 6;
    private static final int MAX_LINKS = 8;
    private static final int MAX_RECEIVERS = 3;
    private static final int MAX_ROOM = 12;
    private static final int MAX_LENGTH = 40;
    private static final int LEAST_GAP = 8;
    private static final int MOST_GAP = 256;
    private static final int MAX_WAITING = 16;
    private static final int MAX_BABBLE = 20;
    private static final int MAX_TICKS = 600;
    private static final int MAX_QUIET = 2000;

    private static final int NETS = 2;
    private static final int PORTS = 16;
    private static final int ALL_PORTS = NETS * PORTS;
    private static final int TO_END = 6;
    private static final int TO_RIGHT = 12;
    private static final int TO_LEFT = 14;
    private static final int EARS = MAX_LINKS * MAX_RECEIVERS;
    private static final int MAX_WAY = 4;

    private static final int LOST_FULL = 0;
    private static final int LOST_DOWN = 1;
    private static final int LOST_POLICED = 2;
    private static final int LOST_SORTS = 3;

    private static final int HIGHEST_NUMBER = 255;
    private static final int REMEMBERED = 10;

    private final Reader reader = new Reader();
    private Plan plan = new Plan();
    private final Envelope envelope = new Envelope();
    private final State now = new State();
    private final State kept = new State();
    private final State later = new State();
    private boolean isKept = false;
    private int trouble = NO_TROUBLE;
    private int latestFault = 0;
    private int faultPlace = NONE;

    public GapLinks() {
    }

    // ---- the bus

    public int feed(int a, int b, int c, int d, int e) {
        if (reader.fed + FED_AT_ONCE > TAPE_ROOM) {
            return NONE;
        }
        reader.append(a);
        reader.append(b);
        reader.append(c);
        reader.append(d);
        reader.append(e);
        return reader.fed;
    }

    public int bus(int n) {
        if (n < 0 || n > reader.fed) {
            return refuse(A_NUMBER);
        }
        reader.read(n);
        latestFault = reader.fault;
        faultPlace = reader.place;
        if (latestFault != Reader.NO_FAULT) {
            return refuse(A_FAULT);
        }
        plan = reader.handOver(plan);
        plan.ways.lay(plan);
        envelope.measure(plan);
        now.beginWith(plan);
        isKept = false;
        return answer(plan.links);
    }

    public int fault() {
        return latestFault;
    }

    public int where() {
        return trouble == A_FAULT ? faultPlace : NONE;
    }

    public int about(int what) {
        if (noBus()) {
            return refuse(NONE_SUCH);
        }
        switch (what) {
            case 0: return answer(plan.switches);
            case 1: return answer(plan.room);
            case 2: return answer(plan.jitter);
            case 3: return answer(plan.window);
            case 4: return answer(plan.skew);
            case 5: return answer(plan.ends);
            case 6: return answer(plan.links);
            case 7: return answer(now.time);
            default: return refuse(NONE_SUCH);
        }
    }

    // ---- ends, links

    public int at(int e) {
        if (!plan.hasEnd(e)) {
            return refuse(NONE_SUCH);
        }
        return answer(plan.endSwitch[e]);
    }

    public int link(int l, int what) {
        if (!plan.hasLink(l)) {
            return refuse(NONE_SUCH);
        }
        switch (what) {
            case 0: return answer(plan.from[l]);
            case 1: return answer(plan.gap[l]);
            case 2: return answer(plan.length[l]);
            case 3: return answer(plan.receivers[l]);
            default: return refuse(NONE_SUCH);
        }
    }

    public int receiver(int l, int i) {
        if (!plan.hasReceiver(l, i)) {
            return refuse(NONE_SUCH);
        }
        return answer(plan.receiverEnd[earOf(l, i)]);
    }

    public int named(long name) {
        int e = plan.endNamed(name);
        if (e != NONE) {
            return answer(e);
        }
        int l = plan.linkNamed(name);
        if (l != NONE) {
            return answer(10 + l);
        }
        return refuse(NONE_SUCH);
    }

    public int way(int l, int i, int k) {
        if (!hasPortOnWay(l, i, k)) {
            return refuse(NONE_SUCH);
        }
        return answer(plan.ways.portAt(earOf(l, i), k));
    }

    // ---- how it is now

    public int waits(int l, int what) {
        if (!plan.hasLink(l)) {
            return refuse(NONE_SUCH);
        }
        switch (what) {
            case 0: return answer(now.waiting[l]);
            case 1: return answer(now.next[l]);
            case 2: return answer(now.number[l]);
            case 3: return answer(now.born[l]);
            case 4: return answer(now.longestWait[l]);
            default: return refuse(NONE_SUCH);
        }
    }

    public int credit(int net, int l) {
        if (!hasNet(net) || !plan.hasLink(l)) {
            return refuse(NONE_SUCH);
        }
        return answer(now.credit[net * MAX_LINKS + l]);
    }

    public int port(int net, int p, int what) {
        if (!hasNet(net) || !plan.hasPort(p)) {
            return refuse(NONE_SUCH);
        }
        int q = net * PORTS + p;
        switch (what) {
            case 0: return answer(now.ports.count[q]);
            case 1: return answer(now.ports.linkBeingSent(q));
            case 2: return answer(now.ports.doneAt[q]);
            case 3: return answer(now.ports.most[q]);
            default: return refuse(NONE_SUCH);
        }
    }

    public int frame(int net, int p, int i, int what) {
        if (!hasNet(net) || !plan.hasPort(p)) {
            return refuse(NONE_SUCH);
        }
        int q = net * PORTS + p;
        if (i < 0 || i >= now.ports.count[q]) {
            return refuse(NONE_SUCH);
        }
        int slot = now.ports.slot(q, i);
        switch (what) {
            case 0: return answer(now.ports.link[slot]);
            case 1: return answer(now.ports.number[slot]);
            case 2: return answer(now.ports.born[slot]);
            default: return refuse(NONE_SUCH);
        }
    }

    public int lost(int net, int what) {
        if (noBus() || !hasNet(net) || !isLostSort(what)) {
            return refuse(NONE_SUCH);
        }
        return answer(now.lost[net * LOST_SORTS + what]);
    }

    public int policed(int net, int l) {
        if (!hasNet(net) || !plan.hasLink(l)) {
            return refuse(NONE_SUCH);
        }
        return answer(now.policed[net * MAX_LINKS + l]);
    }

    // ---- what is heard

    public int heard(int l, int i, int what) {
        if (!plan.hasReceiver(l, i) || !Ears.tells(what)) {
            return refuse(NONE_SUCH);
        }
        return answer(now.ears.told(earOf(l, i), what));
    }

    public int seen(int l, int i, int net) {
        if (!plan.hasReceiver(l, i) || !hasNet(net)) {
            return refuse(NONE_SUCH);
        }
        return answer(now.ears.seen[earOf(l, i) * NETS + net]);
    }

    public int taken(int l, int i, int k) {
        if (!plan.hasReceiver(l, i) || !now.ears.remembers(earOf(l, i), k)) {
            return refuse(NONE_SUCH);
        }
        return answer(now.ears.remembered(earOf(l, i), k));
    }

    // ---- envelopes

    public long load(int p, boolean lower) {
        if (!plan.hasPort(p)) {
            return refuse(NONE_SUCH);
        }
        return part(envelope.loadOf(p), lower);
    }

    public long delay(int p, boolean lower) {
        if (!plan.hasPort(p)) {
            return refuse(NONE_SUCH);
        }
        if (envelope.overloaded) {
            return refuse(NOT_SO);
        }
        return part(envelope.delay[p], lower);
    }

    public long burst(int l, int i, int k, boolean lower) {
        if (k < 1 || !hasPortOnWay(l, i, k)) {
            return refuse(NONE_SUCH);
        }
        if (envelope.overloaded) {
            return refuse(NOT_SO);
        }
        return part(envelope.burst[l * PORTS + plan.ways.portAt(earOf(l, i), k)], lower);
    }

    public long bound(int l, int i, boolean lower) {
        if (!plan.hasReceiver(l, i)) {
            return refuse(NONE_SUCH);
        }
        if (envelope.overloaded) {
            return refuse(NOT_SO);
        }
        return part(envelope.boundOf(plan, earOf(l, i)), lower);
    }

    public int keeps(int l, int i) {
        if (!plan.hasReceiver(l, i)) {
            return refuse(NONE_SUCH);
        }
        if (envelope.overloaded) {
            return refuse(NOT_SO);
        }
        int ear = earOf(l, i);
        long late = now.ears.greatestLate[ear] * Envelope.UNIT;
        return answer(late <= envelope.boundOf(plan, ear) ? 1 : 0);
    }

    public int fullest() {
        if (noBus()) {
            return refuse(NONE_SUCH);
        }
        return answer(envelope.fullestPort());
    }

    public int leastGap(int l) {
        if (!plan.hasLink(l)) {
            return refuse(NONE_SUCH);
        }
        return answer(envelope.leastGapFor(plan, l));
    }

    public int through(int p) {
        if (!plan.hasPort(p)) {
            return refuse(NONE_SUCH);
        }
        return answer(plan.ways.users[p]);
    }

    // ---- acts

    public int send(int l, int n) {
        if (!plan.hasLink(l)) {
            return refuse(NONE_SUCH);
        }
        if (n < 1 || n > MAX_WAITING) {
            return refuse(A_NUMBER);
        }
        if (now.waiting[l] + n > MAX_WAITING) {
            return refuse(NO_ROOM);
        }
        now.waiting[l] += n;
        return answer(now.waiting[l]);
    }

    public int babble(int l, int n) {
        if (!plan.hasLink(l)) {
            return refuse(NONE_SUCH);
        }
        if (n < 1 || n > MAX_BABBLE) {
            return refuse(A_NUMBER);
        }
        int full = 0;
        for (int k = 0; k < n; k++) {
            full += now.bear(plan, l);
        }
        return answer(full);
    }

    public int down(int net, int is) {
        if (noBus() || !hasNet(net)) {
            return refuse(NONE_SUCH);
        }
        if (is != 0 && is != 1) {
            return refuse(A_NUMBER);
        }
        int was = now.isDown[net];
        now.isDown[net] = is;
        return answer(was);
    }

    public int anew(int e) {
        if (!plan.hasEnd(e)) {
            return refuse(NONE_SUCH);
        }
        return answer(now.beginAnew(plan, e));
    }

    public int ticks(int n) {
        if (noBus()) {
            return refuse(NONE_SUCH);
        }
        if (!isTicks(n)) {
            return refuse(A_NUMBER);
        }
        int before = now.ears.takenByAll;
        now.advance(plan, n);
        return answer(now.ears.takenByAll - before);
    }

    // ---- what will be

    public int willHear(int n, int l, int i, int what) {
        if (!plan.hasReceiver(l, i) || !Ears.tells(what)) {
            return refuse(NONE_SUCH);
        }
        if (!isTicks(n)) {
            return refuse(A_NUMBER);
        }
        later.copy(now);
        later.advance(plan, n);
        return answer(later.ears.told(earOf(l, i), what));
    }

    public int willLose(int n, int net, int what) {
        if (noBus() || !hasNet(net) || !isLostSort(what)) {
            return refuse(NONE_SUCH);
        }
        if (!isTicks(n)) {
            return refuse(A_NUMBER);
        }
        later.copy(now);
        later.advance(plan, n);
        return answer(later.lost[net * LOST_SORTS + what]);
    }

    public int quiet() {
        if (noBus()) {
            return refuse(NONE_SUCH);
        }
        later.copy(now);
        int end = now.time + MAX_QUIET;
        for (int k = 0; k < MAX_QUIET && later.time < end && !later.isQuiet(); k++) {
            later.step(plan, end);
        }
        return answer(later.isQuiet() ? later.time - now.time : NOT_YET);
    }

    // ---- what is kept

    public boolean keep() {
        if (noBus()) {
            refuse(NONE_SUCH);
            return false;
        }
        kept.copy(now);
        isKept = true;
        trouble = NO_TROUBLE;
        return true;
    }

    public boolean back() {
        if (!isKept) {
            refuse(NONE_SUCH);
            return false;
        }
        now.copy(kept);
        trouble = NO_TROUBLE;
        return true;
    }

    // ---- what is told

    public int silent(int i) throws NoSuchElementException {
        int left = i;
        for (int l = 0; l < plan.links; l++) {
            if (!now.ears.allTook(l, plan.receivers[l])) {
                if (left == 0) {
                    return l;
                }
                left--;
            }
        }
        throw new NoSuchElementException();
    }

    public int size(int what) {
        switch (what) {
            case 0: return reader.fed;
            case 1: return plan.allReceivers();
            case 2: return now.allWaiting();
            case 3: return now.ports.frames;
            case 4: return isKept ? 1 : 0;
            default: return NONE;
        }
    }

    public int trouble() {
        return trouble;
    }

    // ---- helpers

    private int refuse(int why) {
        trouble = why;
        return NONE;
    }

    private int answer(int value) {
        trouble = NO_TROUBLE;
        return value;
    }

    /** The upper or the lower whole of a fraction told in units of the envelope. */
    private long part(long units, boolean lower) {
        trouble = NO_TROUBLE;
        int shift = Math.min(Envelope.UNIT_BITS, Long.numberOfTrailingZeros(units));
        return lower ? Envelope.UNIT >> shift : units >> shift;
    }

    private boolean noBus() {
        return plan.links == 0;
    }

    private boolean hasPortOnWay(int l, int i, int k) {
        return plan.hasReceiver(l, i) && k >= 0 && k < plan.ways.lengths[earOf(l, i)];
    }

    private static boolean hasNet(int net) {
        return net >= 0 && net < NETS;
    }

    private static boolean isLostSort(int what) {
        return what >= 0 && what < LOST_SORTS;
    }

    private static boolean isTicks(int n) {
        return n >= 1 && n <= MAX_TICKS;
    }

    private static int earOf(int l, int i) {
        return l * MAX_RECEIVERS + i;
    }

    /** What the text of a bus told. Empty, it stands for no bus: it has no end, link or port. */
    private static final class Plan {
        int switches = 0;
        int room = 0;
        int jitter = 0;
        int window = 0;
        int skew = 0;
        int ends = 0;
        int links = 0;
        final int[] endSwitch = new int[MAX_ENDS];
        final long[] endName = new long[MAX_ENDS];
        final long[] linkName = new long[MAX_LINKS];
        final int[] from = new int[MAX_LINKS];
        final int[] gap = new int[MAX_LINKS];
        final int[] length = new int[MAX_LINKS];
        final int[] receivers = new int[MAX_LINKS];
        final int[] receiverEnd = new int[EARS];
        final Ways ways = new Ways();

        void clear() {
            switches = 0;
            ends = 0;
            links = 0;
        }

        boolean hasEnd(int e) {
            return e >= 0 && e < ends;
        }

        boolean hasLink(int l) {
            return l >= 0 && l < links;
        }

        boolean hasReceiver(int l, int i) {
            return hasLink(l) && i >= 0 && i < receivers[l];
        }

        boolean hasPort(int p) {
            if (p < TO_END) {
                return hasEnd(p);
            }
            if (p < TO_RIGHT) {
                return hasEnd(p - TO_END);
            }
            if (p < TO_LEFT) {
                return p - TO_RIGHT + 1 < switches;
            }
            return p < PORTS && p - TO_LEFT + 1 < switches;
        }

        int endNamed(long name) {
            for (int e = 0; e < ends; e++) {
                if (endName[e] == name) {
                    return e;
                }
            }
            return NONE;
        }

        int linkNamed(long name) {
            for (int l = 0; l < links; l++) {
                if (linkName[l] == name) {
                    return l;
                }
            }
            return NONE;
        }

        int allReceivers() {
            int all = 0;
            for (int l = 0; l < links; l++) {
                all += receivers[l];
            }
            return all;
        }

        /** The ear of a link that is at an end; NONE where the end is no receiver of it. */
        int earAt(int l, int e) {
            for (int i = 0; i < receivers[l]; i++) {
                if (receiverEnd[earOf(l, i)] == e) {
                    return earOf(l, i);
                }
            }
            return NONE;
        }

        int creditLimit(int l) {
            return length[l] * (gap[l] + jitter);
        }
    }

    /** The ports that each link goes through. */
    private static final class Ways {
        final int[] ports = new int[EARS * MAX_WAY];
        final int[] lengths = new int[EARS];
        final int[] users = new int[PORTS];
        final int[] onward = new int[MAX_LINKS * PORTS];
        final int[] ahead = new int[MAX_LINKS * PORTS];

        void lay(Plan plan) {
            Arrays.fill(lengths, 0);
            Arrays.fill(users, 0);
            Arrays.fill(onward, 0);
            Arrays.fill(ahead, NONE);
            for (int l = 0; l < plan.links; l++) {
                for (int i = 0; i < plan.receivers[l]; i++) {
                    layOne(plan, l, earOf(l, i));
                }
            }
        }

        private void layOne(Plan plan, int l, int ear) {
            int e = plan.receiverEnd[ear];
            int s = plan.endSwitch[plan.from[l]];
            int last = plan.endSwitch[e];
            lengthen(l, ear, plan.from[l]);
            for (; s < last; s++) {
                lengthen(l, ear, TO_RIGHT + s);
            }
            for (; s > last; s--) {
                lengthen(l, ear, TO_LEFT + s - 1);
            }
            lengthen(l, ear, TO_END + e);
        }

        private void lengthen(int l, int ear, int p) {
            int k = lengths[ear];
            if (k >= MAX_WAY) {
                return;
            }
            if (k > 0) {
                int before = portAt(ear, k - 1);
                onward[l * PORTS + before] |= 1 << p;
                ahead[l * PORTS + p] = before;
            }
            ports[ear * MAX_WAY + k] = p;
            lengths[ear] = k + 1;
            users[p] |= 1 << l;
        }

        int portAt(int ear, int k) {
            return ports[ear * MAX_WAY + k];
        }

        boolean uses(int l, int p) {
            return (users[p] >> l & 1) == 1;
        }
    }

    /** Holds the tape, and reads the text of a bus from it into a plan. Behind the first fault nothing more is read. */
    private static final class Reader {
        static final int NO_FAULT = 0;
        private static final int FORM = 1;
        private static final int UNTOLD = 2;
        private static final int AGAIN = 3;
        private static final int OUT_OF_BOUNDS = 4;
        private static final int MANY = 5;
        private static final int LACKS = 6;

        private static final int FINISH = 0;
        private static final int WORD = 1;
        private static final int WHOLE = 2;
        private static final int SEMICOLON = 3;
        private static final int NO_TOKEN = 4;

        private static final int WORD_ROOM = 8;
        private static final int WHOLE_ROOM = 3;

        // words in the form in which named() gets its names, so that they are compared as numbers
        private static final long BUS = 0x6275732020202020L;
        private static final long END = 0x656e642020202020L;
        private static final long LINK = 0x6c696e6b20202020L;
        private static final long SWITCHES = 0x7377697463686573L;
        private static final long ROOM = 0x726f6f6d20202020L;
        private static final long JITTER = 0x6a69747465722020L;
        private static final long WINDOW = 0x77696e646f772020L;
        private static final long SKEW = 0x736b657720202020L;
        private static final long AT = 0x6174202020202020L;
        private static final long FROM = 0x66726f6d20202020L;
        private static final long GAP = 0x6761702020202020L;
        private static final long LENGTH = 0x6c656e6774682020L;
        private static final long TO = 0x746f202020202020L;

        private final byte[] tape = new byte[TAPE_ROOM];
        int fed = 0;
        private Plan draft = new Plan();
        private int textLength = 0;
        private int start = 0;
        private int behind = 0;
        private int kind = FINISH;
        private long word = 0;
        private int whole = 0;
        private boolean busTold = false;
        int fault = NO_FAULT;
        int place = NONE;

        void append(int four) {
            for (int shift = 24; shift >= 0 && fed < TAPE_ROOM; shift -= 8) {
                tape[fed] = (byte) (four >> shift);
                fed++;
            }
        }

        /** Gives the plan that was read, and takes another in which the next may be drafted. */
        Plan handOver(Plan other) {
            Plan read = draft;
            draft = other;
            return read;
        }

        /** Reads the first bytes of the tape, which is empty then. */
        void read(int n) {
            textLength = Math.min(n, fed);
            fed = 0;
            behind = 0;
            busTold = false;
            fault = NO_FAULT;
            place = NONE;
            draft.clear();
            int lines = 0;
            do {
                step();
                if (isWord(BUS)) {
                    readBus();
                } else if (isWord(END)) {
                    readEnd();
                } else if (isWord(LINK)) {
                    readLink();
                } else {
                    fail(FORM);
                }
                lines++;
            } while (lines <= textLength && fault == NO_FAULT && kind == SEMICOLON);
            if (kind != FINISH) {
                fail(FORM);
            } else if (draft.links == 0) {
                fail(LACKS);
            }
        }

        private void fail(int why) {
            if (fault == NO_FAULT) {
                fault = why;
                place = start;
            }
        }

        private void readBus() {
            if (busTold) {
                fail(AGAIN);
            }
            busTold = true;
            pass(BUS);
            pass(SWITCHES);
            draft.switches = wholeWithin(1, MAX_SWITCHES);
            pass(ROOM);
            draft.room = wholeWithin(1, MAX_ROOM);
            pass(JITTER);
            draft.jitter = wholeWithin(0, 400);
            pass(WINDOW);
            draft.window = wholeWithin(1, 100);
            pass(SKEW);
            draft.skew = wholeWithin(1, 999);
        }

        private void readEnd() {
            beginLine(draft.ends, MAX_ENDS);
            pass(END);
            long name = newName();
            pass(AT);
            int s = wholeWithin(0, draft.switches - 1);
            if (fault == NO_FAULT) {
                draft.endName[draft.ends] = name;
                draft.endSwitch[draft.ends] = s;
                draft.ends++;
            }
        }

        private void readLink() {
            beginLine(draft.links, MAX_LINKS);
            pass(LINK);
            long name = newName();
            pass(FROM);
            int from = knownEnd();
            pass(GAP);
            int gap = wholeGap();
            pass(LENGTH);
            int length = wholeWithin(1, Math.min(MAX_LENGTH, gap));
            pass(TO);
            if (fault == NO_FAULT) {
                int l = draft.links;
                draft.linkName[l] = name;
                draft.from[l] = from;
                draft.gap[l] = gap;
                draft.length[l] = length;
                readReceivers(l);
                draft.links++;
            }
        }

        private void readReceivers(int l) {
            draft.receivers[l] = 0;
            for (int i = 0; i < MAX_RECEIVERS && (i == 0 || kind == WORD); i++) {
                int at = start;
                int e = knownEnd();
                if (fault == NO_FAULT && (e == draft.from[l] || draft.earAt(l, e) != NONE)) {
                    fault = AGAIN;
                    place = at;
                }
                if (fault != NO_FAULT) {
                    return;
                }
                draft.receiverEnd[earOf(l, i)] = e;
                draft.receivers[l] = i + 1;
            }
        }

        private void beginLine(int count, int room) {
            if (!busTold) {
                fail(LACKS);
            } else if (count >= room) {
                fail(MANY);
            }
        }

        private boolean isWord(long expected) {
            return kind == WORD && word == expected;
        }

        private boolean isName() {
            return kind == WORD && word != BUS && word != END && word != LINK;
        }

        private void pass(long expected) {
            if (!isWord(expected)) {
                fail(FORM);
            }
            step();
        }

        private long newName() {
            if (!isName()) {
                fail(FORM);
            } else if (draft.endNamed(word) != NONE || draft.linkNamed(word) != NONE) {
                fail(AGAIN);
            }
            long name = word;
            step();
            return name;
        }

        private int knownEnd() {
            int e = draft.endNamed(word);
            if (!isName()) {
                fail(FORM);
            } else if (e == NONE) {
                fail(UNTOLD);
            }
            step();
            return e;
        }

        private int wholeWithin(int least, int most) {
            return checkedWhole(whole >= least && whole <= most);
        }

        private int wholeGap() {
            return checkedWhole(whole >= LEAST_GAP && whole <= MOST_GAP && Integer.bitCount(whole) == 1);
        }

        private int checkedWhole(boolean within) {
            if (kind != WHOLE) {
                fail(FORM);
            } else if (!within) {
                fail(OUT_OF_BOUNDS);
            }
            int value = whole;
            step();
            return value;
        }

        /** Goes on to the next token; stays where it is once a fault is met. */
        private void step() {
            if (fault != NO_FAULT) {
                return;
            }
            start = behind;
            while (start < textLength && tape[start] == ' ') {
                start++;
            }
            behind = start;
            if (start >= textLength) {
                kind = FINISH;
            } else if (tape[start] == ';') {
                kind = SEMICOLON;
                behind = start + 1;
            } else if (isLetter(tape[start])) {
                stepWord();
            } else if (isDigit(tape[start])) {
                stepWhole();
            } else {
                kind = NO_TOKEN;
            }
        }

        private void stepWord() {
            word = 0;
            while (behind < textLength && isLetter(tape[behind])) {
                word = word << 8 | tape[behind];
                behind++;
            }
            for (int k = behind - start; k < WORD_ROOM; k++) {
                word = word << 8 | ' ';
            }
            kind = behind - start <= WORD_ROOM ? WORD : NO_TOKEN;
        }

        private void stepWhole() {
            whole = 0;
            while (behind < textLength && isDigit(tape[behind])) {
                whole = whole * 10 + (tape[behind] - '0');
                behind++;
            }
            kind = behind - start <= WHOLE_ROOM ? WHOLE : NO_TOKEN;
        }

        private static boolean isLetter(byte sign) {
            return sign >= 'a' && sign <= 'z';
        }

        private static boolean isDigit(byte sign) {
            return sign >= '0' && sign <= '9';
        }
    }

    /** Loads, bursts and delays of a plan, all in units so small that every fraction of a bus is a whole of them. */
    private static final class Envelope {
        // gaps are powers of two up to 2^8, and a burst is divided by a gap at most three times on its way
        static final int UNIT_BITS = 24;
        static final long UNIT = 1L << UNIT_BITS;
        private static final int FULL_LOAD = MOST_GAP;
        private static final long UNITS_OF_LOAD = UNIT / MOST_GAP;

        // each port behind those from which frames come to it
        private static final int[] DOWNSTREAM = {12, 13, 15, 14, 6, 7, 8, 9, 10, 11};

        boolean overloaded = false;
        private final int[] load = new int[PORTS];
        final long[] delay = new long[PORTS];
        final long[] burst = new long[MAX_LINKS * PORTS];

        void measure(Plan plan) {
            overloaded = false;
            for (int p = 0; p < PORTS; p++) {
                load[p] = loadWith(plan, p, NONE, 0);
                overloaded = overloaded || load[p] > FULL_LOAD;
            }
            for (int p = 0; p < TO_END; p++) {
                delay[p] = lengthsThrough(plan, p) * UNIT;
            }
            for (int p : DOWNSTREAM) {
                delay[p] = burstsThrough(plan, p);
            }
        }

        /** The load of a port, were the gap of one link another. */
        private static int loadWith(Plan plan, int p, int changed, int gap) {
            int all = 0;
            for (int l = 0; l < plan.links; l++) {
                int g = l == changed ? gap : plan.gap[l];
                if (plan.ways.uses(l, p) && g > 0) {
                    all += plan.length[l] * (MOST_GAP / g);
                }
            }
            return all;
        }

        private static long lengthsThrough(Plan plan, int p) {
            long all = 0;
            for (int l = 0; l < plan.links; l++) {
                if (plan.ways.uses(l, p)) {
                    all += plan.length[l];
                }
            }
            return all;
        }

        private long burstsThrough(Plan plan, int p) {
            long all = 0;
            for (int l = 0; l < plan.links; l++) {
                if (plan.ways.uses(l, p)) {
                    burst[l * PORTS + p] = burstAt(plan, l, p);
                    all += burst[l * PORTS + p];
                }
            }
            return all;
        }

        private long burstAt(Plan plan, int l, int p) {
            int before = plan.ways.ahead[l * PORTS + p];
            if (before < TO_END) {
                return plan.length[l] * UNIT + perGap(plan, l, plan.jitter * UNIT);
            }
            return burst[l * PORTS + before] + perGap(plan, l, delay[before]);
        }

        private static long perGap(Plan plan, int l, long units) {
            int g = plan.gap[l];
            return g > 0 ? plan.length[l] * units / g : 0;
        }

        long loadOf(int p) {
            return load[p] * UNITS_OF_LOAD;
        }

        long boundOf(Plan plan, int ear) {
            long all = 0;
            for (int k = 0; k < plan.ways.lengths[ear]; k++) {
                all += delay[plan.ways.portAt(ear, k)];
            }
            return all;
        }

        int fullestPort() {
            int fullest = 0;
            for (int p = 1; p < PORTS; p++) {
                if (load[p] > load[fullest]) {
                    fullest = p;
                }
            }
            return fullest;
        }

        int leastGapFor(Plan plan, int l) {
            for (int gap = LEAST_GAP; gap <= MOST_GAP; gap *= 2) {
                if (gap >= plan.length[l] && bears(plan, l, gap)) {
                    return gap;
                }
            }
            return NOT_YET;
        }

        private static boolean bears(Plan plan, int l, int gap) {
            for (int p = 0; p < PORTS; p++) {
                if (loadWith(plan, p, l, gap) > FULL_LOAD) {
                    return false;
                }
            }
            return true;
        }
    }

    /** The frames in the ports of both networks; a port's number here is network * PORTS + port. */
    private static final class Ports {
        int frames = 0;
        final int[] count = new int[ALL_PORTS];
        final int[] first = new int[ALL_PORTS];
        final int[] doneAt = new int[ALL_PORTS];
        final int[] most = new int[ALL_PORTS];
        final int[] link = new int[ALL_PORTS * MAX_ROOM];
        final int[] number = new int[ALL_PORTS * MAX_ROOM];
        final int[] born = new int[ALL_PORTS * MAX_ROOM];

        void clear() {
            frames = 0;
            Arrays.fill(count, 0);
            Arrays.fill(first, 0);
            Arrays.fill(doneAt, NOT_YET);
            Arrays.fill(most, 0);
        }

        void copy(Ports other) {
            frames = other.frames;
            copyAll(other.count, count);
            copyAll(other.first, first);
            copyAll(other.doneAt, doneAt);
            copyAll(other.most, most);
            copyAll(other.link, link);
            copyAll(other.number, number);
            copyAll(other.born, born);
        }

        int slot(int q, int i) {
            return q * MAX_ROOM + (first[q] + i) % MAX_ROOM;
        }

        boolean sends(int q) {
            return doneAt[q] != NOT_YET;
        }

        int linkBeingSent(int q) {
            return sends(q) ? link[slot(q, 0)] : NOT_YET;
        }

        /** A frame comes into a port of so much room: whether it finds a place. */
        boolean admits(int room, int q, int l, int itsNumber, int itsBirth) {
            if (count[q] >= room) {
                return false;
            }
            int slot = slot(q, count[q]);
            link[slot] = l;
            number[slot] = itsNumber;
            born[slot] = itsBirth;
            count[q]++;
            frames++;
            return true;
        }

        void removeFirst(int q) {
            first[q] = (first[q] + 1) % MAX_ROOM;
            count[q]--;
            frames--;
            doneAt[q] = NOT_YET;
        }

        void noteMost() {
            for (int q = 0; q < ALL_PORTS; q++) {
                most[q] = Math.max(most[q], count[q]);
            }
        }

        /** When the next frame is through or begins to be sent, if that is ahead of a time; else that time. */
        int nextChange(int time, int end) {
            int soonest = end;
            for (int q = 0; q < ALL_PORTS; q++) {
                if (count[q] > 0) {
                    soonest = Math.min(soonest, sends(q) ? doneAt[q] : time + 1);
                }
            }
            return soonest;
        }
    }

    /** What each receiver of each link heard. */
    private static final class Ears {
        int takenByAll = 0;
        final int[] taken = new int[EARS];
        final int[] refused = new int[EARS];
        final int[] doubles = new int[EARS];
        final int[] latestNumber = new int[EARS];
        final int[] latestTime = new int[EARS];
        final int[] latestNet = new int[EARS];
        final int[] greatestLate = new int[EARS];
        final int[] leastLate = new int[EARS];
        final int[] seen = new int[EARS * NETS];
        final int[] memory = new int[EARS * REMEMBERED];

        void clear() {
            takenByAll = 0;
            Arrays.fill(taken, 0);
            Arrays.fill(refused, 0);
            Arrays.fill(doubles, 0);
            Arrays.fill(latestNumber, NOT_YET);
            Arrays.fill(latestTime, NOT_YET);
            Arrays.fill(latestNet, NOT_YET);
            Arrays.fill(greatestLate, NOT_YET);
            Arrays.fill(leastLate, NOT_YET);
            Arrays.fill(seen, NOT_YET);
        }

        void copy(Ears other) {
            takenByAll = other.takenByAll;
            copyAll(other.taken, taken);
            copyAll(other.refused, refused);
            copyAll(other.doubles, doubles);
            copyAll(other.latestNumber, latestNumber);
            copyAll(other.latestTime, latestTime);
            copyAll(other.latestNet, latestNet);
            copyAll(other.greatestLate, greatestLate);
            copyAll(other.leastLate, leastLate);
            copyAll(other.seen, seen);
            copyAll(other.memory, memory);
        }

        static boolean tells(int what) {
            return what >= 0 && what <= 7;
        }

        int told(int ear, int what) {
            switch (what) {
                case 0: return taken[ear];
                case 1: return refused[ear];
                case 2: return doubles[ear];
                case 3: return latestNumber[ear];
                case 4: return latestTime[ear];
                case 5: return latestNet[ear];
                case 6: return greatestLate[ear];
                default: return leastLate[ear];
            }
        }

        boolean remembers(int ear, int k) {
            return k >= 0 && k < Math.min(REMEMBERED, taken[ear]);
        }

        int remembered(int ear, int k) {
            return memory[memoryOf(ear, taken[ear] - 1 - k)];
        }

        private static int memoryOf(int ear, int nth) {
            return ear * REMEMBERED + nth % REMEMBERED;
        }

        boolean allTook(int l, int receivers) {
            for (int i = 0; i < receivers; i++) {
                if (taken[earOf(l, i)] == 0) {
                    return false;
                }
            }
            return true;
        }

        void hear(Plan plan, int ear, int net, int number, int born, int time) {
            boolean whole = isWhole(seen[ear * NETS + net], number);
            seen[ear * NETS + net] = number;
            if (!whole) {
                refused[ear]++;
            } else if (isFresh(plan, ear, number, time)) {
                take(ear, net, number, born, time);
            } else {
                doubles[ear]++;
            }
        }

        private static boolean isWhole(int seenNumber, int number) {
            if (seenNumber == NOT_YET || number == 0) {
                return true;
            }
            int next = numberBehind(seenNumber);
            return number == next || number == numberBehind(next);
        }

        private boolean isFresh(Plan plan, int ear, int number, int time) {
            if (taken[ear] == 0 || time - latestTime[ear] > plan.skew) {
                return true;
            }
            int latest = latestNumber[ear];
            if (number == 0) {
                return latest != 0;
            }
            int ahead = latest == 0 ? number : (number - latest + HIGHEST_NUMBER) % HIGHEST_NUMBER;
            return ahead >= 1 && ahead <= plan.window;
        }

        private void take(int ear, int net, int number, int born, int time) {
            int late = time - born;
            greatestLate[ear] = Math.max(greatestLate[ear], late);
            leastLate[ear] = taken[ear] == 0 ? late : Math.min(leastLate[ear], late);
            memory[memoryOf(ear, taken[ear])] = number;
            latestNumber[ear] = number;
            latestTime[ear] = time;
            latestNet[ear] = net;
            taken[ear]++;
            takenByAll++;
        }
    }

    /** All of a bus that changes by acts and ticks. */
    private static final class State {
        int time = 0;
        final int[] isDown = new int[NETS];
        final int[] lost = new int[NETS * LOST_SORTS];
        final int[] waiting = new int[MAX_LINKS];
        final int[] next = new int[MAX_LINKS];
        final int[] number = new int[MAX_LINKS];
        final int[] born = new int[MAX_LINKS];
        final int[] longestWait = new int[MAX_LINKS];
        final int[] credit = new int[NETS * MAX_LINKS];
        final int[] policed = new int[NETS * MAX_LINKS];
        final Ports ports = new Ports();
        final Ears ears = new Ears();

        void beginWith(Plan plan) {
            time = 0;
            Arrays.fill(isDown, 0);
            Arrays.fill(lost, 0);
            Arrays.fill(waiting, 0);
            Arrays.fill(next, 0);
            Arrays.fill(number, 0);
            Arrays.fill(born, 0);
            Arrays.fill(longestWait, NOT_YET);
            Arrays.fill(policed, 0);
            for (int l = 0; l < plan.links; l++) {
                credit[l] = plan.creditLimit(l);
                credit[MAX_LINKS + l] = plan.creditLimit(l);
            }
            ports.clear();
            ears.clear();
        }

        void copy(State other) {
            time = other.time;
            copyAll(other.isDown, isDown);
            copyAll(other.lost, lost);
            copyAll(other.waiting, waiting);
            copyAll(other.next, next);
            copyAll(other.number, number);
            copyAll(other.born, born);
            copyAll(other.longestWait, longestWait);
            copyAll(other.credit, credit);
            copyAll(other.policed, policed);
            ports.copy(other.ports);
            ears.copy(other.ears);
        }

        int allWaiting() {
            int all = 0;
            for (int l = 0; l < MAX_LINKS; l++) {
                all += waiting[l];
            }
            return all;
        }

        boolean isQuiet() {
            return ports.frames == 0 && allWaiting() == 0;
        }

        int beginAnew(Plan plan, int e) {
            int gone = 0;
            for (int l = 0; l < plan.links; l++) {
                if (plan.from[l] == e) {
                    gone += waiting[l];
                    waiting[l] = 0;
                    number[l] = 0;
                }
            }
            return gone;
        }

        void advance(Plan plan, int n) {
            int end = time + n;
            for (int k = 0; k < n && time < end; k++) {
                step(plan, end);
            }
        }

        /** One tick, and at once with it all the ticks ahead of it, up to an end, in which only credit grows. */
        void step(Plan plan, int end) {
            int ticks = Math.max(1, nextChange(plan, end) - time);
            if (ticks > 1) {
                // frames that babbled since the last tick are in their ports behind the ticks passed over
                ports.noteMost();
            }
            time += ticks;
            growCredit(plan, ticks);
            deliver(plan);
            release(plan);
            beginSending(plan);
            ports.noteMost();
        }

        private int nextChange(Plan plan, int end) {
            int soonest = ports.nextChange(time, end);
            for (int l = 0; l < plan.links; l++) {
                if (waiting[l] > 0) {
                    soonest = Math.min(soonest, next[l]);
                }
            }
            return soonest;
        }

        private void growCredit(Plan plan, int ticks) {
            for (int l = 0; l < plan.links; l++) {
                int more = plan.length[l] * ticks;
                int limit = plan.creditLimit(l);
                credit[l] = Math.min(limit, credit[l] + more);
                credit[MAX_LINKS + l] = Math.min(limit, credit[MAX_LINKS + l] + more);
            }
        }

        private void deliver(Plan plan) {
            for (int q = 0; q < ALL_PORTS; q++) {
                if (ports.doneAt[q] == time) {
                    int slot = ports.slot(q, 0);
                    ports.removeFirst(q);
                    if (leadsToEnd(q)) {
                        arriveAtEnd(plan, q, slot);
                    } else {
                        arriveAtSwitch(plan, q, slot);
                    }
                }
            }
        }

        private static boolean leadsToEnd(int q) {
            int p = q % PORTS;
            return p >= TO_END && p < TO_RIGHT;
        }

        private void arriveAtEnd(Plan plan, int q, int slot) {
            int ear = plan.earAt(ports.link[slot], q % PORTS - TO_END);
            if (ear != NONE) {
                ears.hear(plan, ear, q / PORTS, ports.number[slot], ports.born[slot], time);
            }
        }

        private void arriveAtSwitch(Plan plan, int q, int slot) {
            int net = q / PORTS;
            int p = q % PORTS;
            int l = ports.link[slot];
            if (isDown[net] == 1) {
                lost[net * LOST_SORTS + LOST_DOWN]++;
            } else if (p < TO_END && !paysCredit(plan, net, l)) {
                lost[net * LOST_SORTS + LOST_POLICED]++;
                policed[net * MAX_LINKS + l]++;
            } else {
                spread(plan, net, plan.ways.onward[l * PORTS + p], slot);
            }
        }

        private boolean paysCredit(Plan plan, int net, int l) {
            int price = plan.length[l] * plan.gap[l];
            if (price > credit[net * MAX_LINKS + l]) {
                return false;
            }
            credit[net * MAX_LINKS + l] -= price;
            return true;
        }

        /** A frame, known by the slot that it left, comes into each of some ports, told as bits. */
        private void spread(Plan plan, int net, int targets, int slot) {
            for (int p = TO_END; p < PORTS; p++) {
                if ((targets >> p & 1) == 1) {
                    int q = net * PORTS + p;
                    boolean fits = ports.admits(plan.room, q, ports.link[slot], ports.number[slot], ports.born[slot]);
                    lost[net * LOST_SORTS + LOST_FULL] += fits ? 0 : 1;
                }
            }
        }

        private void release(Plan plan) {
            for (int l = 0; l < plan.links; l++) {
                if (waiting[l] > 0 && next[l] <= time) {
                    waiting[l]--;
                    bear(plan, l);
                    next[l] = time + plan.gap[l];
                }
            }
        }

        /** A frame of a link is born into both networks: in how many of them it is lost at once. */
        int bear(Plan plan, int l) {
            int full = 0;
            for (int net = 0; net < NETS; net++) {
                boolean fits = ports.admits(plan.room, net * PORTS + plan.from[l], l, number[l], time);
                lost[net * LOST_SORTS + LOST_FULL] += fits ? 0 : 1;
                full += fits ? 0 : 1;
            }
            number[l] = numberBehind(number[l]);
            born[l]++;
            return full;
        }

        private void beginSending(Plan plan) {
            for (int q = 0; q < ALL_PORTS; q++) {
                if (ports.count[q] > 0 && !ports.sends(q)) {
                    int slot = ports.slot(q, 0);
                    int l = ports.link[slot];
                    ports.doneAt[q] = time + plan.length[l];
                    if (q % PORTS < TO_END) {
                        longestWait[l] = Math.max(longestWait[l], time - ports.born[slot]);
                    }
                }
            }
        }
    }

    private static int numberBehind(int number) {
        return number == HIGHEST_NUMBER ? 1 : number + 1;
    }

    private static void copyAll(int[] source, int[] target) {
        System.arraycopy(source, 0, target, 0, Math.min(source.length, target.length));
    }
}
