import java.math.BigInteger;
import java.util.ArrayList;
import java.util.BitSet;
import java.util.Iterator;
import java.util.List;
import java.util.Map;
import java.util.TreeMap;
import java.util.TreeSet;
import java.util.regex.Matcher;
import java.util.regex.Pattern;

/**
 * The document's words a second time, with sets of integers instead of intervals and whole copies
 * for simulations, so that a slip in the class is not made here too.
 */
final class NaiveMailbox {
    private static final int BAD = -1, IMPOSSIBLE = -2, FULL = -3, NONE = -4;
    private static final BigInteger MODULUS = BigInteger.valueOf(65521);

    private static final class FileKept {
        int length, seed, lifetime, stored;

        boolean existsAt(int t) {
            return t < stored + lifetime;
        }
    }

    private static final class Ground {
        int number, period, offset, duration, priority, loss;
        TreeSet<Integer> directory = new TreeSet<>();
        BitSet covered = new BitSet();
        TreeMap<Integer, BitSet> open = new TreeMap<>();
        int[] counts = new int[4];

        boolean sees(int t) {
            return t >= offset && (t - offset) % period < duration;
        }

        boolean hit(int t) {
            BigInteger x = BigInteger.valueOf(7919L * t + 613L * number + 1);
            return x.multiply(x).mod(MODULUS).intValue() % 1000 < loss;
        }
    }

    private static final class Asked {
        int station, file;
        BitSet holes = new BitSet();
    }

    private List<FileKept> files = new ArrayList<>();
    private List<Ground> grounds = new ArrayList<>();
    private List<Asked> queue = new ArrayList<>();
    private Asked turn;
    private int turnFrames;
    private int now;
    private int[] totals = new int[5];
    private int[] last;
    private String text = "";

    private NaiveMailbox copy() {
        NaiveMailbox c = new NaiveMailbox();
        c.files = files;
        for (Ground g : grounds) {
            Ground d = new Ground();
            d.number = g.number;
            d.period = g.period;
            d.offset = g.offset;
            d.duration = g.duration;
            d.priority = g.priority;
            d.loss = g.loss;
            d.directory.addAll(g.directory);
            d.covered = (BitSet) g.covered.clone();
            for (Map.Entry<Integer, BitSet> e : g.open.entrySet()) {
                d.open.put(e.getKey(), (BitSet) e.getValue().clone());
            }
            c.grounds.add(d);
        }
        for (Asked a : queue) {
            Asked b = new Asked();
            b.station = a.station;
            b.file = a.file;
            b.holes = (BitSet) a.holes.clone();
            c.queue.add(b);
            if (a == turn) {
                c.turn = b;
                c.turnFrames = turnFrames;
            }
        }
        c.now = now;
        return c;
    }

    // ---- sets of integers as lists of intervals

    private static List<int[]> runs(BitSet set) {
        List<int[]> list = new ArrayList<>();
        for (int a = set.nextSetBit(0); a >= 0; a = set.nextSetBit(a)) {
            int b = set.nextClearBit(a) - 1;
            list.add(new int[] {a, b});
            a = b + 1;
        }
        return list;
    }

    private static BitSet missing(BitSet set, int n) {
        BitSet holes = new BitSet();
        holes.set(0, n + 1);
        holes.andNot(set);
        return holes;
    }

    private static boolean addTo(BitSet set, int a, int b) {
        BitSet more = (BitSet) set.clone();
        more.set(a, b + 1);
        if (runs(more).size() > 12) {
            return false;
        }
        set.set(a, b + 1);
        return true;
    }

    private static int element(List<int[]> list, int index) {
        if (index == -1) {
            return list.size();
        }
        return index / 2 < list.size() ? list.get(index / 2)[index % 2] : NONE;
    }

    private static BitSet firstFour(BitSet holes) {
        BitSet first = new BitSet();
        int n = 0;
        for (int[] r : runs(holes)) {
            if (n++ < 4) {
                first.set(r[0], r[1] + 1);
            }
        }
        return first;
    }

    private boolean noStation(int s) {
        return s < 0 || s >= grounds.size();
    }

    private boolean noFile(int f) {
        return f < 0 || f >= files.size();
    }

    private static boolean out(int v, int a, int b) {
        return v < a || v > b;
    }

    // ---- stations

    public int addStation(int period, int offset, int duration, int priority) {
        if (out(period, 1, 1000) || out(offset, 0, 1000) || out(duration, 1, 1000)
                || duration > period || out(priority, 0, 2)) {
            return BAD;
        }
        if (grounds.size() == 5) {
            return FULL;
        }
        Ground g = new Ground();
        g.number = grounds.size();
        g.period = period;
        g.offset = offset;
        g.duration = duration;
        g.priority = priority;
        grounds.add(g);
        return g.number;
    }

    public int setLoss(int s, int rate) {
        if (noStation(s) || out(rate, 0, 1000)) {
            return BAD;
        }
        int old = grounds.get(s).loss;
        grounds.get(s).loss = rate;
        return old;
    }

    public int inView(int s, int t) {
        return noStation(s) || out(t, 0, 1000000) ? BAD : grounds.get(s).sees(t) ? 1 : 0;
    }

    public int nextView(int s, int t) {
        if (noStation(s) || out(t, 0, 1000000)) {
            return BAD;
        }
        int at = t;
        while (!grounds.get(s).sees(at)) {
            at++;
        }
        return at;
    }

    public int receives(int s, int t) {
        if (noStation(s) || out(t, 0, 1000000)) {
            return BAD;
        }
        return grounds.get(s).sees(t) && !grounds.get(s).hit(t) ? 1 : 0;
    }

    // ---- files

    public int store(int length, int seed, int lifetime) {
        if (out(length, 1, 320) || out(seed, 0, 255) || out(lifetime, 1, 100000)) {
            return BAD;
        }
        for (FileKept f : files) {
            if (f.stored == now) {
                return IMPOSSIBLE;
            }
        }
        if (existingCount() == 8 || files.size() == 30) {
            return FULL;
        }
        FileKept f = new FileKept();
        f.length = length;
        f.seed = seed;
        f.lifetime = lifetime;
        f.stored = now;
        files.add(f);
        return files.size() - 1;
    }

    public int fileInfo(int f, int what) {
        if (noFile(f) || out(what, 0, 3)) {
            return BAD;
        }
        FileKept k = files.get(f);
        return new int[] {k.length, k.stored, k.lifetime, k.existsAt(now) ? 1 : 0}[what];
    }

    public int fileByte(int f, int index) {
        if (noFile(f) || index < 0) {
            return BAD;
        }
        if (index >= files.get(f).length) {
            return NONE;
        }
        return (files.get(f).seed + 31 * index + index * index / 7) & 255;
    }

    public int fileCount() {
        return files.size();
    }

    public int existingCount() {
        int n = 0;
        for (FileKept f : files) {
            n += f.existsAt(now) ? 1 : 0;
        }
        return n;
    }

    // ---- directories and open files

    public int directory(int s) {
        if (noStation(s)) {
            return BAD;
        }
        int mask = 0;
        for (int f : grounds.get(s).directory) {
            mask += 1 << f;
        }
        return mask;
    }

    public int unknownFiles(int s) {
        if (noStation(s)) {
            return BAD;
        }
        int n = 0;
        for (int f = 0; f < files.size(); f++) {
            n += files.get(f).existsAt(now) && !grounds.get(s).directory.contains(f) ? 1 : 0;
        }
        return n;
    }

    public int covered(int s, int index) {
        return noStation(s) || index < -1 ? BAD : element(runs(grounds.get(s).covered), index);
    }

    public int timeHole(int s, int index) {
        if (noStation(s) || index < -1) {
            return BAD;
        }
        return element(runs(missing(grounds.get(s).covered, now)), index);
    }

    public int open(int s, int f) {
        if (noStation(s) || noFile(f)) {
            return BAD;
        }
        Ground g = grounds.get(s);
        if (!g.directory.contains(f) || g.open.containsKey(f)) {
            return IMPOSSIBLE;
        }
        if (g.open.size() == 3) {
            return FULL;
        }
        g.open.put(f, new BitSet());
        return g.open.size();
    }

    public int close(int s, int f) {
        int n = receivedBytes(s, f);
        if (n >= 0) {
            grounds.get(s).open.remove(f);
        }
        return n;
    }

    public int receivedBytes(int s, int f) {
        if (noStation(s) || noFile(f)) {
            return BAD;
        }
        BitSet got = grounds.get(s).open.get(f);
        return got == null ? IMPOSSIBLE : got.cardinality();
    }

    public int receivedByte(int s, int f, int index) {
        if (noStation(s) || noFile(f) || index < 0) {
            return BAD;
        }
        BitSet got = grounds.get(s).open.get(f);
        return got == null ? IMPOSSIBLE : got.get(index) ? fileByte(f, index) : NONE;
    }

    public int byteHole(int s, int f, int index) {
        if (noStation(s) || noFile(f) || index < -1) {
            return BAD;
        }
        BitSet got = grounds.get(s).open.get(f);
        if (got == null) {
            return IMPOSSIBLE;
        }
        return element(runs(missing(got, files.get(f).length - 1)), index);
    }

    public int completeFiles(int s) {
        if (noStation(s)) {
            return BAD;
        }
        int n = 0;
        for (int f : grounds.get(s).open.keySet()) {
            n += complete(s, f) ? 1 : 0;
        }
        return n;
    }

    private boolean complete(int s, int f) {
        BitSet got = grounds.get(s).open.get(f);
        return got != null && got.nextClearBit(0) == files.get(f).length;
    }

    // ---- requests

    private Asked askedBy(int s) {
        for (Asked a : queue) {
            if (a.station == s) {
                return a;
            }
        }
        return null;
    }

    private int ask(int s, int f, BitSet holes) {
        if (!grounds.get(s).sees(now) || askedBy(s) != null || holes.isEmpty()) {
            return IMPOSSIBLE;
        }
        if (queue.size() == 6) {
            return FULL;
        }
        Asked a = new Asked();
        a.station = s;
        a.file = f;
        a.holes = firstFour(holes);
        queue.add(a);
        return queue.size();
    }

    public int requestDirectory(int s) {
        return noStation(s) ? BAD : ask(s, -1, missing(grounds.get(s).covered, now));
    }

    public int requestFile(int s, int f) {
        if (noStation(s) || noFile(f)) {
            return BAD;
        }
        BitSet got = grounds.get(s).open.get(f);
        if (got == null || !files.get(f).existsAt(now)) {
            return IMPOSSIBLE;
        }
        return ask(s, f, missing(got, files.get(f).length - 1));
    }

    public int withdraw(int s) {
        if (noStation(s)) {
            return BAD;
        }
        Asked a = askedBy(s);
        if (a == null) {
            return NONE;
        }
        leave(a);
        return queue.size();
    }

    private void leave(Asked a) {
        queue.remove(a);
        if (turn == a) {
            turn = null;
        }
    }

    public int queueLength() {
        return queue.size();
    }

    public int queued(int place, int what) {
        if (place < 0 || out(what, 0, 5)) {
            return BAD;
        }
        if (place >= queue.size()) {
            return NONE;
        }
        Asked a = queue.get(place);
        return new int[] {a.station, a.file < 0 ? 2 : 1, a.file, runs(a.holes).size(),
            a.holes.cardinality(), a == turn ? turnFrames : 0}[what];
    }

    // ---- request texts

    public int type(int c) {
        if (out(c, 32, 126)) {
            return BAD;
        }
        if (text.length() == 60) {
            return FULL;
        }
        text += (char) c;
        return text.length();
    }

    public int clearText() {
        int n = text.length();
        text = "";
        return n;
    }

    public int fault() {
        int at = faultOf(text, null);
        return at < 0 ? NONE : at;
    }

    /** The fault, or -1; found is the file, then the begins and ends of the holes. */
    private static int faultOf(String t, List<Integer> found) {
        Matcher head = Pattern.compile("d:|f\\d{1,5}:").matcher(t);
        if (!head.lookingAt()) {
            Matcher started = Pattern.compile("d|f\\d{0,5}").matcher(t);
            return started.lookingAt() ? started.end() : 0;
        }
        if (found != null) {
            found.add(t.charAt(0) == 'd' ? -1 : Integer.parseInt(t.substring(1, head.end() - 1)));
        }
        Pattern number = Pattern.compile("\\d{1,5}");
        int at = head.end();
        int least = 0;
        for (int hole = 1; ; hole++) {
            Matcher m = number.matcher(t).region(at, t.length());
            if (!m.lookingAt() || Integer.parseInt(m.group()) < least) {
                return at;
            }
            int begin = Integer.parseInt(m.group());
            int end = begin;
            at = m.end();
            if (t.startsWith("-", at)) {
                at++;
                m = number.matcher(t).region(at, t.length());
                if (!m.lookingAt() || Integer.parseInt(m.group()) < begin) {
                    return at;
                }
                end = Integer.parseInt(m.group());
                at = m.end();
            }
            if (found != null) {
                found.add(begin);
                found.add(end);
            }
            if (t.startsWith(",", at) && hole < 4) {
                at++;
                least = end + 2;
                continue;
            }
            if (!t.startsWith(";", at)) {
                return at;
            }
            return at + 1 == t.length() ? -1 : at + 1;
        }
    }

    public int requestText(int s) {
        if (noStation(s)) {
            return BAD;
        }
        List<Integer> found = new ArrayList<>();
        if (faultOf(text, found) >= 0) {
            return IMPOSSIBLE;
        }
        int f = found.get(0);
        if (f >= 0 && (noFile(f) || !files.get(f).existsAt(now))) {
            return IMPOSSIBLE;
        }
        BitSet holes = new BitSet();
        for (int i = 1; i < found.size(); i += 2) {
            holes.set(found.get(i), found.get(i + 1) + 1);
        }
        if (holes.length() - 1 > (f < 0 ? now : files.get(f).length - 1)) {
            return IMPOSSIBLE;
        }
        return ask(s, f, holes);
    }

    // ---- ticks

    public int run(int ticks) {
        if (out(ticks, 1, 1000)) {
            return BAD;
        }
        if (now + ticks > 1000000) {
            return FULL;
        }
        for (int i = 0; i < ticks; i++) {
            tick();
        }
        return now;
    }

    private void tick() {
        for (Iterator<Asked> it = queue.iterator(); it.hasNext();) {
            Asked a = it.next();
            boolean gone = a.file >= 0 && !files.get(a.file).existsAt(now);
            if (gone || !grounds.get(a.station).sees(now)) {
                it.remove();
                totals[4]++;
                turn = a == turn ? null : turn;
            }
        }
        int[] frame = {0, -1, 0, 0, 0};
        if (!queue.isEmpty()) {
            giveTurn();
            frame = turn.file >= 0 ? bytesFrame() : entryFrame();
            turnFrames--;
        }
        totals[frame[0] == 0 ? 2 : frame[0] - 1]++;
        for (Ground g : grounds) {
            if (g.sees(now) && g.hit(now)) {
                g.counts[1]++;
            } else if (g.sees(now)) {
                g.counts[0]++;
                frame[4] |= 1 << g.number;
                take(g, frame);
            }
        }
        last = frame;
        if (turn != null && turn.holes.isEmpty()) {
            leave(turn);
            totals[3]++;
        } else if (turn != null && turnFrames == 0) {
            Asked a = turn;
            leave(a);
            queue.add(a);
        }
        now++;
    }

    private void giveTurn() {
        if (turn != null) {
            return;
        }
        turn = queue.get(0);
        for (int i = queue.size() - 1; i >= 0; i--) {
            if (queue.get(i).file < 0) {
                turn = queue.get(i);
            }
        }
        turnFrames = 1 + grounds.get(turn.station).priority;
    }

    private int[] bytesFrame() {
        int a = turn.holes.nextSetBit(0);
        int b = Math.min(a + 15, turn.holes.nextClearBit(a) - 1);
        turn.holes.clear(a, b + 1);
        return new int[] {1, turn.file, a, b, 0};
    }

    private int[] entryFrame() {
        int a = turn.holes.nextSetBit(0);
        int b = turn.holes.nextClearBit(a) - 1;
        TreeMap<Integer, Integer> existing = new TreeMap<>();
        for (int f = 0; f < files.size(); f++) {
            if (files.get(f).existsAt(now)) {
                existing.put(files.get(f).stored, f);
            }
        }
        Map.Entry<Integer, Integer> next = existing.ceilingEntry(a);
        boolean entry = next != null && next.getKey() <= b;
        int end = entry ? next.getKey() : b;
        Integer before = existing.lowerKey(entry ? end : a);
        turn.holes.clear(a, end + 1);
        return new int[] {2, entry ? next.getValue() : -1, before == null ? 0 : before + 1, end, 0};
    }

    private void take(Ground g, int[] frame) {
        if (frame[0] == 1 && g.open.containsKey(frame[1])) {
            BitSet got = g.open.get(frame[1]);
            int had = got.get(frame[2], frame[3] + 1).cardinality();
            int before = got.cardinality();
            addTo(got, frame[2], frame[3]);
            g.counts[2] += got.cardinality() - before;
            g.counts[3] += had;
        }
        if (frame[0] == 2) {
            if (frame[1] >= 0) {
                g.directory.add(frame[1]);
            }
            addTo(g.covered, frame[2], frame[3]);
        }
    }

    public int time() {
        return now;
    }

    public int lastFrame(int what) {
        if (out(what, 0, 4)) {
            return BAD;
        }
        boolean none = last == null || last[0] == 0 && (what == 2 || what == 3);
        return none ? NONE : last[what];
    }

    public int total(int what) {
        return out(what, 0, 4) ? BAD : totals[what];
    }

    public int stationTotal(int s, int what) {
        return noStation(s) || out(what, 0, 3) ? BAD : grounds.get(s).counts[what];
    }

    // ---- what would come

    public int ticksToComplete(int s, int f) {
        if (noStation(s) || noFile(f)) {
            return BAD;
        }
        if (!grounds.get(s).open.containsKey(f)) {
            return IMPOSSIBLE;
        }
        NaiveMailbox dream = copy();
        for (int n = 0; n < 2000; n++) {
            if (dream.complete(s, f)) {
                return n;
            }
            boolean asks = dream.grounds.get(s).sees(dream.now) && dream.askedBy(s) == null
                && files.get(f).existsAt(dream.now) && dream.queue.size() < 6;
            if (asks) {
                dream.requestFile(s, f);
            }
            dream.tick();
        }
        return dream.complete(s, f) ? 2000 : NONE;
    }

    public int ticksToEmpty() {
        NaiveMailbox dream = copy();
        int n = 0;
        while (!dream.queue.isEmpty()) {
            dream.tick();
            n++;
        }
        return n;
    }
}
