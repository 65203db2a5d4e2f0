/** The boundary cases of promises 22 to 26: requests and the queue. */
public final class RequestBoundsTest extends MailboxStates {
    private static final Check check = new Check("RequestBoundsTest");
    private static final int[] NO_STATIONS = {-1, 1, 5, HUGE, TINY};

    public static void main(String[] args) {
        stationNumbers();
        directoryHoles();
        directoryHolesSent();
        directoryOnce();
        directoryInView();
        fullQueue();
        fileHoles();
        fileHolesSent();
        fileOpen();
        fileExists();
        fileComplete();
        fileInView();
        fileOnce();
        withdrawNone();
        withdrawFromFull();
        withdrawOutOfView();
        queueLengths();
        queuedPlaces();
        queuedWhats();
        queuedSums();
        check.end();
    }

    private static void due(String what, int got, int want) {
        check.due(what, got, want);
    }

    private static void stationNumbers() {
        check.of("Promises 22 to 24: station: number of a station");
        OrbitMailbox m = opened(20, 1000);
        for (int s : NO_STATIONS) {
            due("requestDirectory " + s, m.requestDirectory(s), BAD);
            due("requestFile " + s, m.requestFile(s, 0), BAD);
            due("withdraw " + s, m.withdraw(s), BAD);
        }
        check.of("Promise 23: file: number of a file that has been stored");
        int[] wrong = {-1, 1, 30, HUGE, TINY};
        for (int f : wrong) {
            due("requestFile of " + f, m.requestFile(0, f), BAD);
        }
        due("none of them is in the queue", m.queueLength(), 0);
        check.of("Errors: INVALID_ARGUMENT rather than NOT_POSSIBLE (promises 22 and 23)");
        m.requestFile(0, 0);
        due("no station, others wait", m.requestDirectory(1), BAD);
        due("no file, a request in the queue", m.requestFile(0, 1), BAD);
        due("no station, not open", m.requestFile(1, 0), BAD);
        check.of("Errors: INVALID_ARGUMENT rather than NOT_FOUND (promise 24)");
        due("no station, no request", m.withdraw(1), BAD);
    }

    private static void directoryHoles() {
        check.of("Promise 22: with the first 4 holes, or all, if there are fewer");
        OrbitMailbox m = watched(0);
        due("at time 0", m.requestDirectory(0), 1);
        check.dueAll("the hole [0, 0]", request(m, 0), 0, OrbitMailbox.DIRECTORY, -1, 1, 1, 0);
        // After k intervals there are k + 1 holes: 0, 4 to 5, 9 to 10, ..
        int[] holes = {1, 2, 3, 4, 4, 4};
        int[] times = {1, 3, 5, 7, 7, 7};
        for (int k = 0; k < 6; k++) {
            OrbitMailbox apart = coveredApart(k);
            due("holes behind " + k + " intervals", apart.timeHole(0, -1), k + 1);
            due("asked for", apart.requestDirectory(0), 1);
            due("holes of the request", apart.queued(0, 3), holes[k]);
            due("times in them", apart.queued(0, 4), times[k]);
        }
        OrbitMailbox full = coveredApart(12);
        full.requestDirectory(0);
        due("of thirteen holes four", full.queued(0, 3), 4);
    }

    private static void directoryHolesSent() {
        check.of("Promise 22: the first holes, not others");
        OrbitMailbox m = coveredApart(5);
        m.requestDirectory(0);
        int[] ends = {0, 5, 10, 15};
        for (int end : ends) {
            m.run(1);
            // No file exists any more, so each empty entry covers from 0.
            check.dueAll("an empty entry", frame(m), OrbitMailbox.DIRECTORY, -1, 0, end, 1);
        }
        due("no more", m.queueLength(), 0);
        check.of("Promise 22: within [0, present time] of the call, not of the tick");
        OrbitMailbox late = crowded(2);
        late.store(320, 0, 1000);
        late.run(5);
        ask(late, 1, "f0:0-15;");
        late.requestDirectory(0);
        due("times to 5", late.queued(1, 4), 6);
        late.run(1);
        due("sent before the file", late.queueLength(), 2);
        due("times from 1 to 5", late.queued(1, 4), 5);
    }

    private static void directoryOnce() {
        check.of("Promise 22: NOT_POSSIBLE if the station has a request in the queue");
        OrbitMailbox m = opened(20, 1000);
        m.addStation(1, 0, 1, 0);
        due("the first", m.requestDirectory(0), 1);
        due("a second", m.requestDirectory(0), IMPOSSIBLE);
        due("one of another station", m.requestDirectory(1), 2);
        m.withdraw(0);
        due("again after it was withdrawn", m.requestDirectory(0), 2);
        m.withdraw(0);
        due("for a file", m.requestFile(0, 0), 2);
        due("then for the directory", m.requestDirectory(0), IMPOSSIBLE);
        m.run(m.ticksToEmpty());
        due("when it is done", m.requestDirectory(0), 1);
    }

    private static void directoryInView() {
        check.of("Promise 22: NOT_POSSIBLE if the station is not in view");
        OrbitMailbox m = new OrbitMailbox();
        m.addStation(10, 2, 3, 0);
        int[] answers = {IMPOSSIBLE, IMPOSSIBLE, 1, 1, 1, IMPOSSIBLE};
        for (int t = 0; t < 16; t++) {
            int want = t % 10 < 6 ? answers[t % 10] : IMPOSSIBLE;
            due("at " + t, m.requestDirectory(0), want);
            m.withdraw(0);
            m.run(1);
        }
    }

    private static void fullQueue() {
        check.of("Promises 22, 23 and 30: one request of each station, so 5 of at most 6 requests");
        OrbitMailbox m = crowded(5);
        m.store(320, 0, 1000);
        for (int s = 0; s < 5; s++) {
            due("request of station " + s, m.requestDirectory(s), s + 1);
        }
        for (int s = 0; s < 5; s++) {
            due("again " + s, m.requestDirectory(s), IMPOSSIBLE);
            due("its place " + s, m.queued(s, 0), s);
        }
        due("queueLength", m.queueLength(), 5);
        m.run(5);
        due("all are done", m.total(3), 5);
        for (int s = 0; s < 5; s++) {
            m.open(s, 0);
            due("file request of station " + s, m.requestFile(s, 0), s + 1);
        }
        due("ticksToEmpty, each with twenty blocks", m.ticksToEmpty(), 100);
        m.run(100);
        due("all are done", m.total(3), 10);
        write(m, "f0:0-319;");
        for (int s = 0; s < 5; s++) {
            due("text request of station " + s, m.requestText(s), s + 1);
        }
        due("the last one's", m.queued(4, 4), 320);
        due("none behind it", m.queued(5, 0), NONE);
    }

    private static void fileHoles() {
        check.of("Promise 23: with the first 4 holes, or all, if there are fewer");
        // After k odd bytes there are k + 1 holes: 0, 2, 4, .. and the long last one.
        int[] holes = {1, 2, 3, 4, 4, 4};
        int[] bytes = {320, 319, 318, 317, 4, 4};
        for (int k = 0; k < 6; k++) {
            OrbitMailbox m = oddBytes(k);
            due("holes behind " + k + " intervals", m.byteHole(0, 0, -1), k + 1);
            due("asked for", m.requestFile(0, 0), 1);
            check.dueAll("of " + (k + 1) + " holes", request(m, 0),
                0, OrbitMailbox.FILE, 0, holes[k], bytes[k], 0);
        }
        OrbitMailbox full = oddBytes(12);
        full.requestFile(0, 0);
        due("of thirteen holes four", full.queued(0, 3), 4);
        OrbitMailbox one = opened(1, 1000);
        one.requestFile(0, 0);
        due("of one byte one hole", one.queued(0, 3), 1);
        due("of one byte one byte", one.queued(0, 4), 1);
    }

    private static void fileHolesSent() {
        check.of("Promise 23: the first holes, not others");
        OrbitMailbox m = oddBytes(5);
        m.requestFile(0, 0);
        for (int k = 0; k < 4; k++) {
            m.run(1);
            check.dueAll("a byte", frame(m), OrbitMailbox.FILE, 0, 2 * k, 2 * k, 1);
        }
        due("no more", m.queueLength(), 0);
        check.dueAll("the fifth and the last hole stay", byteHoles(m, 0, 0), 8, 8, 10, 319);
    }

    private static void fileOpen() {
        check.of("Promise 23: NOT_POSSIBLE if the file is not open at the station");
        OrbitMailbox m = watched(0);
        m.addStation(1, 0, 1, 0);
        m.store(20, 0, 1000);
        due("not known", m.requestFile(0, 0), IMPOSSIBLE);
        m.requestDirectory(0);
        m.run(1);
        due("known", m.requestFile(0, 0), IMPOSSIBLE);
        m.open(0, 0);
        due("open", m.requestFile(0, 0), 1);
        due("known at the other", m.requestFile(1, 0), IMPOSSIBLE);
        m.open(1, 0);
        due("open at the other", m.requestFile(1, 0), 2);
        m.withdraw(0);
        m.close(0, 0);
        due("closed", m.requestFile(0, 0), IMPOSSIBLE);
    }

    private static void fileExists() {
        check.of("Promise 23: NOT_POSSIBLE if the file does not exist");
        OrbitMailbox m = opened(20, 5);
        m.run(2);
        due("at its last time", m.requestFile(0, 0), 1);
        m.withdraw(0);
        m.run(1);
        due("its end", m.time(), 5);
        due("when it is gone", m.requestFile(0, 0), IMPOSSIBLE);
    }

    private static void fileComplete() {
        check.of("Promise 23: NOT_POSSIBLE if the file is complete");
        OrbitMailbox m = opened(20, 1000);
        fetch(m, 0, "f0:0-18;");
        due("but for the last byte", m.requestFile(0, 0), 1);
        due("which is asked for", m.queued(0, 4), 1);
        m.run(1);
        due("complete", m.requestFile(0, 0), IMPOSSIBLE);
        m.close(0, 0);
        m.open(0, 0);
        due("opened again", m.requestFile(0, 0), 1);
        due("all is asked for", m.queued(0, 4), 20);
    }

    private static void fileInView() {
        check.of("Promise 23: NOT_POSSIBLE if the station is not in view");
        OrbitMailbox m = new OrbitMailbox();
        m.addStation(10, 0, 3, 0);
        m.store(320, 0, 1000);
        m.requestDirectory(0);
        m.run(1);
        m.open(0, 0);
        for (int t = 1; t < 14; t++) {
            due("at " + t, m.requestFile(0, 0), t % 10 < 3 ? 1 : IMPOSSIBLE);
            m.withdraw(0);
            m.run(1);
        }
    }

    private static void fileOnce() {
        check.of("Promise 23: NOT_POSSIBLE if the station has a request in the queue");
        OrbitMailbox m = opened(20, 1000);
        due("the first", m.requestFile(0, 0), 1);
        due("a second", m.requestFile(0, 0), IMPOSSIBLE);
        due("a third as a text", ask(m, 0, "f0:1;"), IMPOSSIBLE);
        m.withdraw(0);
        m.requestDirectory(0);
        due("behind one for the directory", m.requestFile(0, 0), IMPOSSIBLE);
        due("that one stays", m.queued(0, 1), OrbitMailbox.DIRECTORY);
        m.run(1);
        due("when it is done", m.requestFile(0, 0), 1);
    }

    private static void withdrawNone() {
        check.of("Promise 24: NOT_FOUND if the station has none");
        OrbitMailbox m = crowded(2);
        due("the queue is empty", m.withdraw(0), NONE);
        m.requestDirectory(1);
        due("another has one", m.withdraw(0), NONE);
        due("that one stays", m.withdraw(1), 0);
        due("withdrawn already", m.withdraw(1), NONE);
        m.requestDirectory(0);
        m.run(1);
        due("done already", m.withdraw(0), NONE);
        check.dueAll("neither done nor dropped", totals(m), 0, 1, 0, 1, 0);
    }

    private static void withdrawFromFull() {
        check.of("Promise 24: returns the number of requests that remain");
        int[][] orders = {{0, 1, 2, 3, 4}, {4, 3, 2, 1, 0}, {2, 0, 4, 1, 3}};
        for (int[] order : orders) {
            OrbitMailbox m = crowded(5);
            for (int s = 0; s < 5; s++) {
                m.requestDirectory(s);
            }
            int remaining = 5;
            for (int s : order) {
                remaining--;
                due("withdraw " + s, m.withdraw(s), remaining);
                for (int place = 0; place < remaining - 1; place++) {
                    check.holds("the others keep their order",
                        m.queued(place, 0) < m.queued(place + 1, 0));
                }
            }
            check.dueAll("neither done nor dropped", totals(m), 0, 0, 0, 0, 0);
        }
    }

    private static void withdrawOutOfView() {
        check.of("Promise 24: a station that is not in view can withdraw");
        OrbitMailbox m = new OrbitMailbox();
        m.addStation(10, 0, 3, 0);
        m.store(320, 0, 1000);
        m.run(2);
        ask(m, 0, "f0:0-319;");
        m.run(1);
        due("it is out of view", m.inView(0, 3), 0);
        due("its request waits until the tick", m.queueLength(), 1);
        due("withdraw", m.withdraw(0), 0);
        m.run(1);
        due("it was not dropped", m.total(4), 0);
        check.of("Promise 24: a request for a file that is gone can be withdrawn");
        OrbitMailbox gone = opened(320, 3);
        gone.requestFile(0, 0);
        gone.run(1);
        due("the file is gone", gone.existingCount(), 0);
        due("withdraw", gone.withdraw(0), 0);
        gone.run(1);
        due("it was not dropped", gone.total(4), 0);
    }

    private static void queueLengths() {
        check.of("Promise 25: the number of requests in the queue");
        OrbitMailbox m = crowded(5);
        due("of a new object", new OrbitMailbox().queueLength(), 0);
        for (int s = 0; s < 5; s++) {
            due("before " + s, m.queueLength(), s);
            m.requestDirectory(s);
            m.requestDirectory(s);
        }
        for (int left = 5; left >= 0; left--) {
            due("before a tick", m.queueLength(), left);
            m.run(1);
        }
    }

    private static void queuedPlaces() {
        check.of("Promise 26: INVALID_ARGUMENT if place is negative; NOT_FOUND if there is no such request");
        OrbitMailbox m = crowded(5);
        due("place 0 of none", m.queued(0, 0), NONE);
        due("place -1 of none", m.queued(-1, 0), BAD);
        for (int s = 0; s < 5; s++) {
            m.requestDirectory(4 - s);
            due("the last place", m.queued(s, 0), 4 - s);
            due("the place behind it", m.queued(s + 1, 0), NONE);
        }
        due("the first place", m.queued(0, 0), 4);
        int[] behind = {5, 6, 7, HUGE};
        for (int place : behind) {
            due("place " + place, m.queued(place, 0), NONE);
        }
        due("place -1", m.queued(-1, 0), BAD);
        due("the least int", m.queued(TINY, 0), BAD);
    }

    private static void queuedWhats() {
        check.of("Promise 26: what: 0 to 5");
        OrbitMailbox m = opened(20, 1000);
        m.addStation(1, 0, 1, 2);
        m.requestFile(0, 0);
        m.requestDirectory(1);
        check.dueAll("of a file", request(m, 0), 0, OrbitMailbox.FILE, 0, 1, 20, 0);
        check.dueAll("of the directory", request(m, 1), 1, OrbitMailbox.DIRECTORY, -1, 1, 3, 0);
        due("-1", m.queued(0, -1), BAD);
        due("6", m.queued(0, 6), BAD);
        due("the least int", m.queued(0, TINY), BAD);
        due("the greatest int", m.queued(0, HUGE), BAD);
        check.of("Errors: INVALID_ARGUMENT rather than NOT_FOUND (promise 26)");
        due("what 6 and no such request", m.queued(2, 6), BAD);
        due("what -1 and no such request", m.queued(2, -1), BAD);
        due("both wrong", m.queued(-1, 6), BAD);
    }

    private static void queuedSums() {
        check.of("Promise 26: 3: the number of its holes; 4: how many integers they contain in all");
        OrbitMailbox m = opened(320, 1000);
        String[] texts = {"f0:0;", "f0:319;", "f0:0-319;", "f0:0,2,4,6;", "f0:0-1,3-4,6-7,9-319;"};
        int[][] sums = {{1, 1}, {1, 1}, {1, 320}, {4, 4}, {4, 317}};
        for (int i = 0; i < texts.length; i++) {
            due(texts[i], ask(m, 0, texts[i]), 1);
            due(texts[i] + " holes", m.queued(0, 3), sums[i][0]);
            due(texts[i] + " bytes", m.queued(0, 4), sums[i][1]);
            m.withdraw(0);
        }
        ask(m, 0, "f0:0-16,20-51,60;");
        int[][] left = {{3, 50, 0}, {3, 34, 0}, {2, 33, 0}, {2, 17, 0}, {1, 1, 0}};
        for (int[] l : left) {
            due("holes left", m.queued(0, 3), l[0]);
            due("bytes left", m.queued(0, 4), l[1]);
            due("no turn between ticks with priority 0", m.queued(0, 5), l[2]);
            m.run(1);
        }
        due("nothing left", m.queueLength(), 0);
        OrbitMailbox late = watched(0);
        pass(late, 50000);
        ask(late, 0, "d:0-49999;");
        due("times of a long hole", late.queued(0, 4), 50000);
    }
}
