import java.lang.reflect.Method;
import java.util.ArrayList;
import java.util.Arrays;
import java.util.List;
import java.util.Random;
import java.util.TreeMap;

/** Random runs of calls, the same ones on the class and on the naive model; seeds are fixed. */
public final class ModelTest {
    private static final int RUNS = 1500;
    private static final int CALLS = 512;
    private static final String[] TEXT_PARTS = {"d", "f", ":", ",", ";", "-", "0", "1", "7", "12",
        "00003", "123456", " ", "x", "f0:", "f1:", "f2:", "d:", "f12:"};

    private final Random random;
    private final int seed;
    private final OrbitMailbox real = new OrbitMailbox();
    private final NaiveMailbox naive = new NaiveMailbox();
    private final boolean talkative;
    private int stations = 3;
    private final List<String> log = new ArrayList<>();
    private static final TreeMap<String, Method[]> methods = new TreeMap<>();
    private static final TreeMap<String, Integer> seen = new TreeMap<>();

    private ModelTest(int seed) {
        this.seed = seed;
        this.random = new Random(seed);
        this.talkative = random.nextInt(3) == 0;
    }

    public static void main(String[] args) throws Exception {
        for (Method m : OrbitMailbox.class.getDeclaredMethods()) {
            if (java.lang.reflect.Modifier.isPublic(m.getModifiers())) {
                Method twin = NaiveMailbox.class.getMethod(m.getName(), m.getParameterTypes());
                twin.setAccessible(true);
                methods.put(m.getName(), new Method[] {m, twin});
            }
        }
        int runs = args.length > 0 ? Integer.parseInt(args[0]) : RUNS;
        for (int seed = 0; seed < runs; seed++) {
            new ModelTest(seed).go();
        }
        if (args.length > 1) {
            System.out.println(seen);
        }
        System.out.println("ModelTest: " + runs + " runs agree");
    }

    private void go() throws Exception {
        if (random.nextInt(5) > 0) {
            prepare();
        }
        while (log.size() < CALLS) {
            step();
        }
    }

    /** The same call on both; ends the program where they differ. */
    private int call(String name, int... args) throws Exception {
        if (log.size() >= CALLS) {
            return 0;
        }
        Object[] boxed = Arrays.stream(args).boxed().toArray();
        Method[] pair = methods.get(name);
        int got = (Integer) pair[0].invoke(real, boxed);
        int want = (Integer) pair[1].invoke(naive, boxed);
        log.add(name + Arrays.toString(args) + " = " + want);
        seen.merge(name + (want < 0 ? want : ""), 1, Integer::sum);
        if (got != want) {
            log.forEach(System.out::println);
            System.out.println("ModelTest: seed " + seed + ", last call answered " + got);
            System.exit(1);
        }
        return got;
    }

    private int pick(int... values) {
        return values[random.nextInt(values.length)];
    }

    private int station() {
        return random.nextInt(40) == 0 ? pick(-1, 5, Integer.MAX_VALUE, Integer.MIN_VALUE)
            : random.nextInt(random.nextInt(10) == 0 ? 5 : stations);
    }

    /** Mostly one of the newest files in the station's directory, for others can't be opened. */
    private int file(int station) {
        int stored = Math.max(1, naive.fileCount());
        int known = Math.max(0, naive.directory(station));
        if (random.nextInt(40) == 0) {
            return pick(-1, stored, 30, 31, Integer.MAX_VALUE);
        }
        if (known == 0 || random.nextInt(8) == 0) {
            return random.nextInt(stored);
        }
        for (int i = random.nextInt(4); i > 0 && Integer.bitCount(known) > 1; i--) {
            known &= ~Integer.highestOneBit(known);
        }
        return Integer.numberOfTrailingZeros(Integer.highestOneBit(known));
    }

    private int index() {
        return random.nextInt(20) == 0 ? pick(-2, Integer.MIN_VALUE, Integer.MAX_VALUE, 30)
            : random.nextInt(4) == 0 ? -1 : random.nextInt(26);
    }

    private int moment() {
        return random.nextInt(10) == 0 ? pick(-1, 0, 1000000, 1000001, 999999)
            : random.nextInt(3) == 0 ? random.nextInt(1000001) : random.nextInt(2000);
    }

    /** Stations that know some files and have opened them. */
    private void prepare() throws Exception {
        stations = 1 + random.nextInt(4);
        for (int i = 0; i < stations; i++) {
            addStation();
        }
        for (int i = random.nextInt(4); i >= 0; i--) {
            call("store", 1 + random.nextInt(320), random.nextInt(256), pick(60, 400, 100000));
            call("run", 1 + random.nextInt(4));
        }
        for (int i = 0; i < 3; i++) {
            for (int s = 0; s < stations; s++) {
                call("requestDirectory", s);
            }
            call("run", 5 + random.nextInt(12));
        }
        for (int s = 0; s < stations; s++) {
            for (int f = 0; f < 4; f++) {
                call("open", s, f);
            }
        }
    }

    private void addStation() throws Exception {
        int period = random.nextInt(3) == 0 ? 1 : 1 + random.nextInt(60);
        int duration = random.nextInt(3) == 0 ? period : 1 + random.nextInt(period);
        int station = call("addStation", period, random.nextInt(12), duration, random.nextInt(3));
        if (station >= 0 && random.nextBoolean()) {
            call("setLoss", station, random.nextInt(700));
        }
    }

    private void step() throws Exception {
        int s = station();
        int f = file(s);
        switch (random.nextInt(24)) {
            case 0 -> rareStep(s);
            case 1, 2 -> call("store", 1 + random.nextInt(320), random.nextInt(256),
                pick(1, 5, 30, 90, 1000, 100000));
            case 3, 4, 5, 6 -> observe(s, f);
            case 7 -> call("open", s, f);
            case 8 -> closeSeldom(s, f);
            case 9, 10 -> call("requestDirectory", s);
            case 11, 12, 13 -> call("requestFile", s, f);
            case 14 -> withdrawSeldom(s);
            case 15 -> watchQueue();
            case 16 -> typeAnything();
            case 17, 18 -> askByText(s, f);
            case 19 -> foresee(s, f);
            default -> pass();
        }
    }

    private void rareStep(int s) throws Exception {
        int f = file(s);
        switch (random.nextInt(11)) {
            case 9, 10 -> wildCall();
            case 0 -> addStation();
            case 1 -> call("addStation", pick(-1, 0, 1, 1000, 1001), pick(-1, 0, 1000, 1001),
                pick(-1, 0, 1, 1000, 1001), pick(-1, 0, 2, 3));
            case 2 -> call("setLoss", s, pick(-1, 0, 100, 300, 600, 1000, 1001));
            case 3 -> call("inView", s, moment());
            case 4 -> call("nextView", s, moment());
            case 5 -> call("receives", s, moment());
            case 6 -> call("store", pick(-1, 0, 1, 320, 321), pick(-1, 0, 255, 256),
                pick(-1, 0, 1, 100000, 100001));
            case 7 -> call("fileInfo", f, random.nextInt(6) - 1);
            default -> call("fileByte", f, pick(-1, 0, 7, 50, 319, 320, Integer.MAX_VALUE));
        }
    }

    /** Any method with any arguments; an exception ends the test. */
    private void wildCall() throws Exception {
        String[] names = methods.keySet().toArray(new String[0]);
        String name = names[random.nextInt(names.length)];
        int[] args = new int[methods.get(name)[0].getParameterCount()];
        for (int i = 0; i < args.length; i++) {
            args[i] = pick(Integer.MIN_VALUE, Integer.MIN_VALUE + 1, -1000001, -5, -4, -3, -2, -1,
                0, 1, 2, 3, 4, 5, 6, 29, 30, 31, 32, 59, 60, 320, 1000, 100000, 1000000, 1 << 16,
                Integer.MAX_VALUE - 1, Integer.MAX_VALUE);
        }
        call(name, args);
    }

    private void observe(int s, int f) throws Exception {
        switch (random.nextInt(12)) {
            case 0 -> call("directory", s);
            case 1 -> call("unknownFiles", s);
            case 2 -> call("covered", s, index());
            case 3 -> call("timeHole", s, index());
            case 4 -> call("receivedBytes", s, f);
            case 5, 6 -> call("receivedByte", s, f, pick(-1, 0, 15, 16, 40, 100, 319, 320));
            case 7, 8 -> call("byteHole", s, f, index());
            case 9 -> call("completeFiles", s);
            case 10 -> call("fileCount");
            default -> call("existingCount");
        }
    }

    private void closeSeldom(int s, int f) throws Exception {
        if (random.nextInt(3) == 0) {
            call("close", s, f);
        }
    }

    private void withdrawSeldom(int s) throws Exception {
        if (random.nextInt(3) == 0) {
            call("withdraw", s);
        }
    }

    private void watchQueue() throws Exception {
        call("queueLength");
        int place = random.nextInt(3);
        call("queued", place, random.nextInt(6));
        call("queued", place, 5);
        call("queued", pick(-1, 0, 6, Integer.MAX_VALUE), pick(-1, 0, 5, 6));
    }

    private void typeText(String text) throws Exception {
        for (int i = 0; i < text.length(); i++) {
            call("type", text.charAt(i));
        }
    }

    private void typeAnything() throws Exception {
        if (!talkative) {
            return;
        }
        if (random.nextBoolean()) {
            call("clearText");
        }
        int parts = 1 + random.nextInt(10);
        for (int i = 0; i < parts; i++) {
            typeText(TEXT_PARTS[random.nextInt(TEXT_PARTS.length)]);
        }
        call("type", pick(31, 32, 126, 127, -1, Integer.MAX_VALUE));
        call("fault");
    }

    private void askByText(int s, int f) throws Exception {
        if (!talkative && random.nextInt(3) > 0) {
            return;
        }
        boolean forFile = random.nextBoolean();
        int limit = forFile ? Math.max(0, naive.fileInfo(f, 0) - 1) : naive.time();
        StringBuilder text = new StringBuilder(forFile ? "f" + Math.max(0, f % 100000) : "d");
        int at = random.nextInt(limit / 2 + 1);
        int holes = 1 + random.nextInt(4);
        for (int i = 0; i < holes; i++) {
            int end = at + (random.nextBoolean() ? 0 : random.nextInt(limit / 6 + 1));
            text.append(i == 0 ? ':' : ',').append(at);
            if (end > at) {
                text.append('-').append(end);
            }
            at = end + 1 + (random.nextInt(30) == 0 ? 0 : 1 + random.nextInt(limit / 6 + 1));
        }
        call("clearText");
        typeText(text + (random.nextInt(20) == 0 ? "" : ";"));
        call("fault");
        call("requestText", s);
    }

    private void foresee(int s, int f) throws Exception {
        call("ticksToEmpty");
        if (random.nextInt(3) == 0) {
            call("ticksToComplete", s, f);
        }
    }

    private void pass() throws Exception {
        call("run", random.nextInt(60) == 0 ? pick(-1, 0, 1000, 1001, Integer.MAX_VALUE)
            : random.nextInt(8) == 0 ? 1 + random.nextInt(60) : 1 + random.nextInt(3));
        switch (random.nextInt(4)) {
            case 0 -> call("lastFrame", random.nextInt(7) - 1);
            case 1 -> call("total", random.nextInt(7) - 1);
            case 2 -> call("stationTotal", station(), random.nextInt(6) - 1);
            default -> call("time");
        }
    }
}
