import java.math.BigInteger;
import java.util.ArrayList;
import java.util.Arrays;
import java.util.HashMap;
import java.util.List;
import java.util.Map;
import java.util.NoSuchElementException;

/**
 * The document told a second time, for comparison: tick by tick, with lists and maps, and fractions of any size.
 * It shares no code with GapLinks, and makes no haste.
 */
final class PlainBus {
    private static final List<Integer> GAPS = Arrays.asList(8, 16, 32, 64, 128, 256);

    static final class Fault extends Exception {
        private static final long serialVersionUID = 1;
        final int sort;
        final int place;

        Fault(int sort, int place) {
            this.sort = sort;
            this.place = place;
        }
    }

    static final class Refusal extends Exception {
        private static final long serialVersionUID = 1;
        final int why;

        Refusal(int why) {
            this.why = why;
        }
    }

    static final class Link {
        String name;
        int from;
        int gap;
        int length;
        final List<Integer> to = new ArrayList<>();
    }

    static final class Frame {
        final int link;
        final int number;
        final int born;

        Frame(int link, int number, int born) {
            this.link = link;
            this.number = number;
            this.born = born;
        }
    }

    static final class Port {
        final List<Frame> frames = new ArrayList<>();
        int through = -2;
        int most = 0;

        Port copy() {
            Port p = new Port();
            p.frames.addAll(frames);
            p.through = through;
            p.most = most;
            return p;
        }
    }

    static final class Ear {
        final List<Integer> taken = new ArrayList<>();
        int refused = 0;
        int doubles = 0;
        int time = -2;
        int net = -2;
        int greatest = -2;
        int least = -2;
        final int[] seen = {-2, -2};

        Ear copy() {
            Ear e = new Ear();
            e.taken.addAll(taken);
            e.refused = refused;
            e.doubles = doubles;
            e.time = time;
            e.net = net;
            e.greatest = greatest;
            e.least = least;
            e.seen[0] = seen[0];
            e.seen[1] = seen[1];
            return e;
        }
    }

    /** What the text told. */
    static final class Told {
        int switches;
        int room;
        int jitter;
        int window;
        int skew;
        final List<String> ends = new ArrayList<>();
        final List<Integer> at = new ArrayList<>();
        final List<Link> links = new ArrayList<>();

        List<Integer> way(Link link, int end) {
            List<Integer> way = new ArrayList<>();
            way.add(link.from);
            int here = at.get(link.from);
            int there = at.get(end);
            while (here != there) {
                way.add(here < there ? 12 + here : 13 + here);
                here += here < there ? 1 : -1;
            }
            way.add(6 + end);
            return way;
        }

        boolean goesThrough(Link link, int port) {
            for (int end : link.to) {
                if (way(link, end).contains(port)) {
                    return true;
                }
            }
            return false;
        }

        boolean has(int port) {
            if (port < 0 || port > 15) {
                return false;
            }
            return port < 12 ? port % 6 < ends.size() : (port % 2) + 1 < switches;
        }

        /** Upper and lower whole of the load, when one link's gap is another. */
        Ratio load(int port, Link changed, int gap) {
            Ratio all = Ratio.of(0);
            for (Link link : links) {
                if (goesThrough(link, port)) {
                    all = all.plus(Ratio.of(link.length).by(link == changed ? gap : link.gap));
                }
            }
            return all;
        }

        boolean tooMuch(Link changed, int gap) {
            for (int p = 0; p < 16; p++) {
                if (load(p, changed, gap).compareTo(Ratio.of(1)) > 0) {
                    return true;
                }
            }
            return false;
        }

        Ratio delay(int port) {
            Ratio all = Ratio.of(0);
            for (Link link : links) {
                if (goesThrough(link, port)) {
                    all = all.plus(port < 6 ? Ratio.of(link.length) : burst(link, port));
                }
            }
            return all;
        }

        Ratio burst(Link link, int port) {
            for (int end : link.to) {
                List<Integer> way = way(link, end);
                int k = way.indexOf(port);
                if (k == 1) {
                    return Ratio.of(link.length).plus(Ratio.of(link.length * jitter).by(link.gap));
                }
                if (k > 1) {
                    int ahead = way.get(k - 1);
                    Ratio more = delay(ahead).times(Ratio.of(link.length).by(link.gap));
                    return burst(link, ahead).plus(more);
                }
            }
            throw new IllegalStateException();
        }

        Ratio bound(Link link, int end) {
            Ratio all = Ratio.of(0);
            for (int port : way(link, end)) {
                all = all.plus(delay(port));
            }
            return all;
        }
    }

    static final class Ratio implements Comparable<Ratio> {
        final BigInteger upper;
        final BigInteger lower;

        Ratio(BigInteger upper, BigInteger lower) {
            BigInteger common = upper.gcd(lower);
            this.upper = upper.divide(common);
            this.lower = lower.divide(common);
        }

        static Ratio of(long whole) {
            return new Ratio(BigInteger.valueOf(whole), BigInteger.ONE);
        }

        Ratio plus(Ratio o) {
            return new Ratio(upper.multiply(o.lower).add(o.upper.multiply(lower)), lower.multiply(o.lower));
        }

        Ratio times(Ratio o) {
            return new Ratio(upper.multiply(o.upper), lower.multiply(o.lower));
        }

        Ratio by(long whole) {
            return new Ratio(upper, lower.multiply(BigInteger.valueOf(whole)));
        }

        public int compareTo(Ratio o) {
            return upper.multiply(o.lower).compareTo(o.upper.multiply(lower));
        }

        long part(boolean ofLower) {
            return (ofLower ? lower : upper).longValueExact();
        }
    }

    /** All that changes. */
    static final class Run {
        final Told told;
        int time = 0;
        int allTaken = 0;
        final int[] down = new int[2];
        final int[][] lost = new int[2][3];
        final int[][] policed = new int[2][8];
        final int[][] credit = new int[2][8];
        final int[] queue = new int[8];
        final int[] next = new int[8];
        final int[] number = new int[8];
        final int[] born = new int[8];
        final int[] wait = {-2, -2, -2, -2, -2, -2, -2, -2};
        final Port[][] ports = new Port[2][16];
        final Ear[][] ears = new Ear[8][6];

        Run(Told told) {
            this.told = told;
            for (int net = 0; net < 2; net++) {
                for (int p = 0; p < 16; p++) {
                    ports[net][p] = new Port();
                }
                for (int l = 0; l < told.links.size(); l++) {
                    credit[net][l] = most(told.links.get(l));
                }
            }
            for (int l = 0; l < 8; l++) {
                for (int e = 0; e < 6; e++) {
                    ears[l][e] = new Ear();
                }
            }
        }

        Run copy() {
            Run r = new Run(told);
            r.time = time;
            r.allTaken = allTaken;
            for (int net = 0; net < 2; net++) {
                r.down[net] = down[net];
                System.arraycopy(lost[net], 0, r.lost[net], 0, 3);
                System.arraycopy(policed[net], 0, r.policed[net], 0, 8);
                System.arraycopy(credit[net], 0, r.credit[net], 0, 8);
                for (int p = 0; p < 16; p++) {
                    r.ports[net][p] = ports[net][p].copy();
                }
            }
            for (int l = 0; l < 8; l++) {
                r.queue[l] = queue[l];
                r.next[l] = next[l];
                r.number[l] = number[l];
                r.born[l] = born[l];
                r.wait[l] = wait[l];
                for (int e = 0; e < 6; e++) {
                    r.ears[l][e] = ears[l][e].copy();
                }
            }
            return r;
        }

        int most(Link link) {
            return link.length * (link.gap + told.jitter);
        }

        void tick() {
            time++;
            for (int net = 0; net < 2; net++) {
                for (int l = 0; l < told.links.size(); l++) {
                    Link link = told.links.get(l);
                    credit[net][l] = Math.min(most(link), credit[net][l] + link.length);
                }
            }
            for (int net = 0; net < 2; net++) {
                for (int p = 0; p < 16; p++) {
                    Port port = ports[net][p];
                    if (port.through == time) {
                        port.through = -2;
                        arrive(net, p, port.frames.remove(0));
                    }
                }
            }
            for (int l = 0; l < told.links.size(); l++) {
                if (queue[l] > 0 && next[l] <= time) {
                    queue[l]--;
                    bear(l);
                    next[l] = time + told.links.get(l).gap;
                }
            }
            for (int net = 0; net < 2; net++) {
                for (int p = 0; p < 16; p++) {
                    begin(ports[net][p], p);
                }
            }
        }

        private void begin(Port port, int p) {
            if (port.through == -2 && !port.frames.isEmpty()) {
                Frame frame = port.frames.get(0);
                port.through = time + told.links.get(frame.link).length;
                if (p < 6) {
                    wait[frame.link] = Math.max(wait[frame.link], time - frame.born);
                }
            }
            port.most = Math.max(port.most, port.frames.size());
        }

        int bear(int l) {
            Frame frame = new Frame(l, number[l], time);
            number[l] = after(number[l]);
            born[l]++;
            int from = told.links.get(l).from;
            return come(0, from, frame) + come(1, from, frame);
        }

        static int after(int number) {
            return number < 255 ? number + 1 : 1;
        }

        private int come(int net, int p, Frame frame) {
            if (ports[net][p].frames.size() == told.room) {
                lost[net][0]++;
                return 1;
            }
            ports[net][p].frames.add(frame);
            return 0;
        }

        private void arrive(int net, int p, Frame frame) {
            if (p >= 6 && p < 12) {
                hear(net, ears[frame.link][p - 6], frame);
                return;
            }
            if (down[net] == 1) {
                lost[net][1]++;
                return;
            }
            Link link = told.links.get(frame.link);
            if (p < 6) {
                int price = link.length * link.gap;
                if (price > credit[net][frame.link]) {
                    lost[net][2]++;
                    policed[net][frame.link]++;
                    return;
                }
                credit[net][frame.link] -= price;
            }
            int here = p < 6 ? told.at.get(p) : p < 14 ? p - 12 + 1 : p - 14;
            int back = p < 6 ? 6 + p : p < 14 ? p + 2 : p - 2;
            for (int to = 6; to < 16; to++) {
                if (to != back && leads(link, here, to)) {
                    come(net, to, frame);
                }
            }
        }

        private boolean leads(Link link, int here, int port) {
            for (int end : link.to) {
                int there = told.at.get(end);
                int by = there == here ? 6 + end : there > here ? 12 + here : 14 + here - 1;
                if (by == port) {
                    return true;
                }
            }
            return false;
        }

        private void hear(int net, Ear ear, Frame frame) {
            int seen = ear.seen[net];
            ear.seen[net] = frame.number;
            boolean whole = seen == -2 || frame.number == 0 || frame.number == after(seen)
                    || frame.number == after(after(seen));
            if (!whole) {
                ear.refused++;
                return;
            }
            if (!fresh(ear, frame.number)) {
                ear.doubles++;
                return;
            }
            allTaken++;
            ear.taken.add(0, frame.number);
            ear.time = time;
            ear.net = net;
            int late = time - frame.born;
            ear.greatest = Math.max(ear.greatest, late);
            ear.least = ear.least == -2 ? late : Math.min(ear.least, late);
        }

        private boolean fresh(Ear ear, int number) {
            if (ear.taken.isEmpty() || time - ear.time > told.skew) {
                return true;
            }
            int latest = ear.taken.get(0);
            if (number == 0) {
                return latest != 0;
            }
            for (int k = 1; k <= told.window; k++) {
                latest = after(latest);
                if (latest == number) {
                    return true;
                }
            }
            return false;
        }

        int waiting() {
            int all = 0;
            for (int q : queue) {
                all += q;
            }
            return all;
        }

        int inPorts() {
            int all = 0;
            for (Port[] net : ports) {
                for (Port port : net) {
                    all += port.frames.size();
                }
            }
            return all;
        }

        int heard(int l, int e, int what) {
            Ear ear = ears[l][e];
            int[] all = {ear.taken.size(), ear.refused, ear.doubles, ear.taken.isEmpty() ? -2 : ear.taken.get(0),
                ear.time, ear.net, ear.greatest, ear.least};
            return all[what];
        }
    }

    // ---- the text

    private static final class Text {
        final String text;
        int here = 0;
        int start = 0;
        String token = "";
        final Told told = new Told();
        final Map<String, Integer> names = new HashMap<>();

        Text(String text) throws Fault {
            this.text = text;
            go();
        }

        private void go() {
            while (here < text.length() && text.charAt(here) == ' ') {
                here++;
            }
            start = here;
            String sort = here == text.length() ? "" : sort(text.charAt(here));
            while (here < text.length() && sort(text.charAt(here)).equals(sort) && !(sort.equals(";") && here > start)) {
                here++;
            }
            token = text.substring(start, here);
        }

        private static String sort(char c) {
            return c >= 'a' && c <= 'z' ? "a" : c >= '0' && c <= '9' ? "0" : c == ';' ? ";" : c == ' ' ? " " : "?" + (int) c;
        }

        boolean isWord() {
            return token.matches("[a-z]{1,8}");
        }

        Fault fault(int sort) {
            return new Fault(sort, start);
        }

        void word(String expected) throws Fault {
            if (!token.equals(expected)) {
                throw fault(1);
            }
            go();
        }

        int whole(List<Integer> allowed, int least, int most) throws Fault {
            if (!token.matches("[0-9]{1,3}")) {
                throw fault(1);
            }
            int whole = Integer.parseInt(token);
            if (whole < least || whole > most || allowed != null && !allowed.contains(whole)) {
                throw fault(4);
            }
            go();
            return whole;
        }

        String name() throws Fault {
            if (!isWord() || Arrays.asList("bus", "end", "link").contains(token)) {
                throw fault(1);
            }
            return token;
        }

        String newName(int number) throws Fault {
            String name = name();
            if (names.containsKey(name)) {
                throw fault(3);
            }
            names.put(name, number);
            go();
            return name;
        }

        int end() throws Fault {
            Integer e = names.get(name());
            if (e == null || e >= 10) {
                throw fault(2);
            }
            return e;
        }

        Told read() throws Fault {
            line(true);
            while (token.equals(";")) {
                go();
                line(false);
            }
            if (!token.isEmpty()) {
                throw fault(1);
            }
            if (told.links.isEmpty()) {
                throw fault(6);
            }
            return told;
        }

        private void line(boolean first) throws Fault {
            if (!token.equals("bus") && !token.equals("end") && !token.equals("link")) {
                throw fault(1);
            }
            if (first && !token.equals("bus")) {
                throw fault(6);
            }
            if (token.equals("bus")) {
                bus(first);
            } else if (token.equals("end")) {
                endLine();
            } else {
                linkLine();
            }
        }

        private void bus(boolean first) throws Fault {
            if (!first) {
                throw fault(3);
            }
            go();
            word("switches");
            told.switches = whole(null, 1, 3);
            word("room");
            told.room = whole(null, 1, 12);
            word("jitter");
            told.jitter = whole(null, 0, 400);
            word("window");
            told.window = whole(null, 1, 100);
            word("skew");
            told.skew = whole(null, 1, 999);
        }

        private void endLine() throws Fault {
            if (told.ends.size() == 6) {
                throw fault(5);
            }
            go();
            String name = newName(told.ends.size());
            word("at");
            int at = whole(null, 0, told.switches - 1);
            told.ends.add(name);
            told.at.add(at);
        }

        private void linkLine() throws Fault {
            if (told.links.size() == 8) {
                throw fault(5);
            }
            go();
            Link link = new Link();
            link.name = newName(10 + told.links.size());
            word("from");
            link.from = end();
            go();
            word("gap");
            link.gap = whole(GAPS, 8, 256);
            word("length");
            link.length = whole(null, 1, Math.min(40, link.gap));
            word("to");
            do {
                if (link.to.size() == 3) {
                    throw fault(1);
                }
                int e = end();
                if (e == link.from || link.to.contains(e)) {
                    throw fault(3);
                }
                link.to.add(e);
                go();
            } while (isWord());
            told.links.add(link);
        }
    }

    // ---- the calls

    private String tape = "";
    private Told told = null;
    private Run now = null;
    private Run kept = null;
    private Map<String, Integer> names = new HashMap<>();
    private int fault = 0;
    private int place = -1;
    private int trouble = 0;

    /** A call by its name; booleans are told as 1 or 0, an exception as -999. */
    long call(String name, long[] a) {
        int[] n = new int[a.length];
        for (int k = 0; k < a.length; k++) {
            n[k] = (int) a[k];
        }
        switch (name) {
            case "feed": return feed(n);
            case "fault": return fault;
            case "where": return trouble == 4 ? place : -1;
            case "trouble": return trouble;
            case "size": return size(n[0]);
            case "silent": return silent(n[0]);
            default: break;
        }
        try {
            long answer = refusable(name, a, n);
            trouble = 0;
            return answer;
        } catch (Refusal refusal) {
            trouble = refusal.why;
            return name.equals("keep") || name.equals("back") ? 0 : -1;
        }
    }

    private int feed(int[] n) {
        if (tape.length() + 20 > 900) {
            return -1;
        }
        StringBuilder more = new StringBuilder(tape);
        for (int four : n) {
            for (int k = 3; k >= 0; k--) {
                more.append((char) (four >>> 8 * k & 255));
            }
        }
        tape = more.toString();
        return tape.length();
    }

    private int size(int what) {
        switch (what) {
            case 0: return tape.length();
            case 1:
                int all = 0;
                for (int l = 0; told != null && l < told.links.size(); l++) {
                    all += told.links.get(l).to.size();
                }
                return all;
            case 2: return now == null ? 0 : now.waiting();
            case 3: return now == null ? 0 : now.inPorts();
            case 4: return kept == null ? 0 : 1;
            default: return -1;
        }
    }

    private int silent(int i) {
        List<Integer> all = new ArrayList<>();
        for (int l = 0; told != null && l < told.links.size(); l++) {
            boolean some = false;
            for (int e : told.links.get(l).to) {
                some |= now.ears[l][e].taken.isEmpty();
            }
            if (some) {
                all.add(l);
            }
        }
        return i < 0 || i >= all.size() ? -999 : all.get(i);
    }

    private static void need(boolean so, int why) throws Refusal {
        if (!so) {
            throw new Refusal(why);
        }
    }

    private static boolean in(int n, int least, int most) {
        return n >= least && n <= most;
    }

    private Link linkOf(int l) throws Refusal {
        need(told != null && in(l, 0, told.links.size() - 1), 1);
        return told.links.get(l);
    }

    private int endOf(int l, int i) throws Refusal {
        Link link = linkOf(l);
        need(in(i, 0, link.to.size() - 1), 1);
        return link.to.get(i);
    }

    private void needNet(int net) throws Refusal {
        need(told != null && in(net, 0, 1), 1);
    }

    private void needPort(int p) throws Refusal {
        need(told != null && told.has(p), 1);
    }

    private static int pick(int what, int... all) throws Refusal {
        need(in(what, 0, all.length - 1), 1);
        return all[what];
    }

    private long refusable(String name, long[] a, int[] n) throws Refusal {
        switch (name) {
            case "bus": return bus(n[0]);
            case "keep":
                need(told != null, 1);
                kept = now.copy();
                return 1;
            case "back":
                need(kept != null, 1);
                now = kept.copy();
                return 1;
            case "about":
                need(told != null, 1);
                return pick(n[0], told.switches, told.room, told.jitter, told.window, told.skew, told.ends.size(),
                        told.links.size(), now.time);
            case "at":
                need(told != null && in(n[0], 0, told.ends.size() - 1), 1);
                return told.at.get(n[0]);
            case "link": {
                Link link = linkOf(n[0]);
                return pick(n[1], link.from, link.gap, link.length, link.to.size());
            }
            case "receiver": return endOf(n[0], n[1]);
            case "named": {
                StringBuilder word = new StringBuilder();
                for (int k = 7; k >= 0; k--) {
                    word.append((char) (a[0] >>> 8 * k & 255));
                }
                for (Map.Entry<String, Integer> known : names.entrySet()) {
                    if ((known.getKey() + "        ").substring(0, 8).contentEquals(word)) {
                        return known.getValue();
                    }
                }
                throw new Refusal(1);
            }
            case "way": {
                List<Integer> way = told == null ? null : told.way(linkOf(n[0]), endOf(n[0], n[1]));
                need(way != null && in(n[2], 0, way.size() - 1), 1);
                return way.get(n[2]);
            }
            case "waits":
                linkOf(n[0]);
                return pick(n[1], now.queue[n[0]], now.next[n[0]], now.number[n[0]], now.born[n[0]], now.wait[n[0]]);
            case "credit":
                needNet(n[0]);
                linkOf(n[1]);
                return now.credit[n[0]][n[1]];
            case "policed":
                needNet(n[0]);
                linkOf(n[1]);
                return now.policed[n[0]][n[1]];
            case "lost":
                needNet(n[0]);
                return pick(n[1], now.lost[n[0]]);
            case "port": {
                needNet(n[0]);
                needPort(n[1]);
                Port port = now.ports[n[0]][n[1]];
                return pick(n[2], port.frames.size(), port.through == -2 ? -2 : port.frames.get(0).link, port.through,
                        port.most);
            }
            case "frame": {
                needNet(n[0]);
                needPort(n[1]);
                List<Frame> frames = now.ports[n[0]][n[1]].frames;
                need(in(n[2], 0, frames.size() - 1), 1);
                Frame frame = frames.get(n[2]);
                return pick(n[3], frame.link, frame.number, frame.born);
            }
            default: return more(name, a, n);
        }
    }

    private long more(String name, long[] a, int[] n) throws Refusal {
        switch (name) {
            case "heard": {
                int e = endOf(n[0], n[1]);
                need(in(n[2], 0, 7), 1);
                return now.heard(n[0], e, n[2]);
            }
            case "seen": {
                int e = endOf(n[0], n[1]);
                needNet(n[2]);
                return now.ears[n[0]][e].seen[n[2]];
            }
            case "taken": {
                List<Integer> all = now == null ? null : now.ears[Math.floorMod(n[0], 8)][endOf(n[0], n[1])].taken;
                need(all != null && in(n[2], 0, Math.min(10, all.size()) - 1), 1);
                return all.get(n[2]);
            }
            case "load":
                needPort(n[0]);
                return told.load(n[0], null, 1).part(n[1] == 1);
            case "delay":
                needPort(n[0]);
                need(!told.tooMuch(null, 1), 5);
                return told.delay(n[0]).part(n[1] == 1);
            case "burst": {
                int e = endOf(n[0], n[1]);
                List<Integer> way = told.way(linkOf(n[0]), e);
                need(in(n[2], 1, way.size() - 1), 1);
                need(!told.tooMuch(null, 1), 5);
                return told.burst(linkOf(n[0]), way.get(n[2])).part(n[3] == 1);
            }
            case "bound": {
                int e = endOf(n[0], n[1]);
                need(!told.tooMuch(null, 1), 5);
                return told.bound(linkOf(n[0]), e).part(n[2] == 1);
            }
            case "keeps": {
                int e = endOf(n[0], n[1]);
                need(!told.tooMuch(null, 1), 5);
                int greatest = now.ears[n[0]][e].greatest;
                return greatest == -2 || Ratio.of(greatest).compareTo(told.bound(linkOf(n[0]), e)) <= 0 ? 1 : 0;
            }
            case "fullest": {
                need(told != null, 1);
                int best = 0;
                for (int p = 1; p < 16; p++) {
                    if (told.has(p) && told.load(p, null, 1).compareTo(told.load(best, null, 1)) > 0) {
                        best = p;
                    }
                }
                return best;
            }
            case "leastGap":
                for (int gap : GAPS) {
                    if (gap >= linkOf(n[0]).length && !told.tooMuch(linkOf(n[0]), gap)) {
                        return gap;
                    }
                }
                return -2;
            case "through": {
                needPort(n[0]);
                int bits = 0;
                for (int l = 0; l < told.links.size(); l++) {
                    bits |= told.goesThrough(told.links.get(l), n[0]) ? 1 << l : 0;
                }
                return bits;
            }
            default: return act(name, n);
        }
    }

    private long act(String name, int[] n) throws Refusal {
        switch (name) {
            case "send":
                linkOf(n[0]);
                need(in(n[1], 1, 16), 2);
                need(now.queue[n[0]] + n[1] <= 16, 3);
                now.queue[n[0]] += n[1];
                return now.queue[n[0]];
            case "babble": {
                linkOf(n[0]);
                need(in(n[1], 1, 20), 2);
                int lost = 0;
                for (int k = 0; k < n[1]; k++) {
                    lost += now.bear(n[0]);
                }
                return lost;
            }
            case "down": {
                needNet(n[0]);
                need(in(n[1], 0, 1), 2);
                int was = now.down[n[0]];
                now.down[n[0]] = n[1];
                return was;
            }
            case "anew": {
                need(told != null && in(n[0], 0, told.ends.size() - 1), 1);
                int gone = 0;
                for (int l = 0; l < told.links.size(); l++) {
                    if (told.links.get(l).from == n[0]) {
                        gone += now.queue[l];
                        now.queue[l] = 0;
                        now.number[l] = 0;
                    }
                }
                return gone;
            }
            case "ticks": {
                need(told != null, 1);
                need(in(n[0], 1, 600), 2);
                int before = now.allTaken;
                for (int k = 0; k < n[0]; k++) {
                    now.tick();
                }
                return now.allTaken - before;
            }
            case "willHear": {
                int e = endOf(n[1], n[2]);
                need(in(n[3], 0, 7), 1);
                need(in(n[0], 1, 600), 2);
                return later(n[0]).heard(n[1], e, n[3]);
            }
            case "willLose":
                needNet(n[1]);
                need(in(n[2], 0, 2), 1);
                need(in(n[0], 1, 600), 2);
                return later(n[0]).lost[n[1]][n[2]];
            case "quiet": {
                need(told != null, 1);
                Run run = now.copy();
                for (int k = 0; k <= 2000; k++) {
                    if (run.waiting() == 0 && run.inPorts() == 0) {
                        return k;
                    }
                    run.tick();
                }
                return -2;
            }
            default: throw new NoSuchElementException(name);
        }
    }

    private Run later(int n) {
        Run run = now.copy();
        for (int k = 0; k < n; k++) {
            run.tick();
        }
        return run;
    }

    private long bus(int n) throws Refusal {
        need(in(n, 0, tape.length()), 2);
        String first = tape.substring(0, n);
        tape = "";
        try {
            Text text = new Text(first);
            told = text.read();
            names = text.names;
        } catch (Fault f) {
            fault = f.sort;
            place = f.place;
            throw new Refusal(4);
        }
        fault = 0;
        now = new Run(told);
        kept = null;
        return told.links.size();
    }
}
