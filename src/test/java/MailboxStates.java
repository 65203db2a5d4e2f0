/** What the tests by hand share: names of answers, and satellites in states to begin with. */
abstract class MailboxStates {
    static final int BAD = OrbitMailbox.INVALID_ARGUMENT;
    static final int IMPOSSIBLE = OrbitMailbox.NOT_POSSIBLE;
    static final int FULL = OrbitMailbox.CAPACITY_EXCEEDED;
    static final int NONE = OrbitMailbox.NOT_FOUND;
    static final int HUGE = Integer.MAX_VALUE;
    static final int TINY = Integer.MIN_VALUE;

    /** A satellite with one station that is always in view. */
    static OrbitMailbox watched(int priority) {
        OrbitMailbox m = new OrbitMailbox();
        m.addStation(1, 0, 1, priority);
        return m;
    }

    /** One with so many stations, all always in view, of priority 0. */
    static OrbitMailbox crowded(int stations) {
        OrbitMailbox m = new OrbitMailbox();
        for (int s = 0; s < stations; s++) {
            m.addStation(1, 0, 1, 0);
        }
        return m;
    }

    /** A watched one at time 2, its station having opened file 0 (seed 5). */
    static OrbitMailbox opened(int length, int lifetime) {
        OrbitMailbox m = watched(0);
        m.store(length, 5, lifetime);
        m.requestDirectory(0);
        m.run(1);
        m.open(0, 0);
        m.run(1);
        return m;
    }

    static void write(OrbitMailbox m, String text) {
        m.clearText();
        for (int i = 0; i < text.length(); i++) {
            m.type(text.charAt(i));
        }
    }

    static int ask(OrbitMailbox m, int station, String text) {
        write(m, text);
        return m.requestText(station);
    }

    static int faultOf(String text) {
        OrbitMailbox m = new OrbitMailbox();
        write(m, text);
        return m.fault();
    }

    /** Asks, and runs until the queue is empty; a refused text is a slip of the test. */
    static void fetch(OrbitMailbox m, int station, String text) {
        if (ask(m, station, text) < 0) {
            throw new IllegalStateException(text + " is refused");
        }
        m.run(m.ticksToEmpty());
    }

    /** Any number of ticks. */
    static void pass(OrbitMailbox m, int ticks) {
        for (int left = ticks; left > 0; left -= 1000) {
            m.run(Math.min(left, 1000));
        }
    }

    /** Covers [5k + 1, 5k + 3] for each k: the file stored at 5k keeps the intervals apart. */
    static OrbitMailbox coveredApart(int intervals) {
        OrbitMailbox m = watched(0);
        for (int k = 0; k < intervals; k++) {
            m.store(1, 0, 5);
            m.run(3);
            ask(m, 0, "d:" + (5 * k + 3) + ";");
            m.run(2);
        }
        return m;
    }

    /** The bytes 1, 3, 5, .. of file 0 (320 bytes) received, in so many intervals. */
    static OrbitMailbox oddBytes(int intervals) {
        OrbitMailbox m = opened(320, 1000);
        for (int k = 0; k < intervals; k += 4) {
            StringBuilder text = new StringBuilder("f0:");
            for (int i = k; i < k + 4 && i < intervals; i++) {
                text.append(i == k ? "" : ",").append(2 * i + 1);
            }
            fetch(m, 0, text + ";");
        }
        return m;
    }

    static int[] covered(OrbitMailbox m, int station) {
        int[] numbers = new int[2 * Math.max(0, m.covered(station, -1))];
        for (int i = 0; i < numbers.length; i++) {
            numbers[i] = m.covered(station, i);
        }
        return numbers;
    }

    static int[] timeHoles(OrbitMailbox m, int station) {
        int[] numbers = new int[2 * Math.max(0, m.timeHole(station, -1))];
        for (int i = 0; i < numbers.length; i++) {
            numbers[i] = m.timeHole(station, i);
        }
        return numbers;
    }

    static int[] byteHoles(OrbitMailbox m, int station, int file) {
        int[] numbers = new int[2 * Math.max(0, m.byteHole(station, file, -1))];
        for (int i = 0; i < numbers.length; i++) {
            numbers[i] = m.byteHole(station, file, i);
        }
        return numbers;
    }

    /** Kind, file, first, last and receivers of the last frame. */
    static int[] frame(OrbitMailbox m) {
        int[] numbers = new int[5];
        for (int what = 0; what < 5; what++) {
            numbers[what] = m.lastFrame(what);
        }
        return numbers;
    }

    /** Station, kind, file, holes, integers in them and frames left of a request. */
    static int[] request(OrbitMailbox m, int place) {
        int[] numbers = new int[6];
        for (int what = 0; what < 6; what++) {
            numbers[what] = m.queued(place, what);
        }
        return numbers;
    }

    static int[] totals(OrbitMailbox m) {
        int[] numbers = new int[5];
        for (int what = 0; what < 5; what++) {
            numbers[what] = m.total(what);
        }
        return numbers;
    }

    static int[] stationTotals(OrbitMailbox m, int station) {
        int[] numbers = new int[4];
        for (int what = 0; what < 4; what++) {
            numbers[what] = m.stationTotal(station, what);
        }
        return numbers;
    }
}
