/** The boundary cases of promises 31 to 35, and of the terms "A tick". */
public final class TickBoundsTest extends MailboxStates {
    private static final Check check = new Check("TickBoundsTest");
    private static final int IDLE = OrbitMailbox.IDLE;
    private static final int FILE = OrbitMailbox.FILE;
    private static final int DIRECTORY = OrbitMailbox.DIRECTORY;

    public static void main(String[] args) {
        runTicks();
        runToTheEnd();
        runAtOnce();
        droppedOutOfView();
        droppedWithItsFile();
        droppedOnce();
        droppedFromAnyPlace();
        droppedWithTheTurn();
        sixteenBytes();
        oneHoleAtATime();
        entriesAndHoles();
        entriesOfGoneFiles();
        entriesInOneHole();
        takenWhenOpen();
        takenWhenReceived();
        takenByAFullList();
        turnLengths();
        turnAndLastHole();
        turnOfTheDirectory();
        turnWithoutOthers();
        turnAfterDone();
        lastFrameArguments();
        lastFrameOfNone();
        lastFrameReceivers();
        totalArguments();
        totalCounts();
        stationTotalArguments();
        stationTotalFrames();
        stationTotalBytes();
        check.end();
    }

    private static void due(String what, int got, int want) {
        check.due(what, got, want);
    }

    private static void runTicks() {
        check.of("Promise 31: ticks: 1 to 1000");
        OrbitMailbox m = new OrbitMailbox();
        int[] wrong = {0, -1, 1001, HUGE, TINY};
        for (int ticks : wrong) {
            due("run " + ticks, m.run(ticks), BAD);
            due("time then", m.time(), 0);
        }
        due("no frame was sent", m.lastFrame(0), NONE);
        due("1", m.run(1), 1);
        check.of("Promise 32: the time");
        due("after 1", m.time(), 1);
        due("1000", m.run(1000), 1001);
        due("after 1000 more", m.time(), 1001);
        check.dueAll("as many idle frames", totals(m), 0, 0, 1001, 0, 0);
    }

    // Only calls behind the 512th can come so far, which are not promised: yet nothing else tells it.
    private static void runToTheEnd() {
        check.of("Promise 31: CAPACITY_EXCEEDED if the time would be greater than 1000000");
        OrbitMailbox m = watched(0);
        m.store(20, 0, 1);
        pass(m, 999999);
        due("by 2 from 999999", m.run(2), FULL);
        due("by 1000 from 999999", m.run(1000), FULL);
        due("time then", m.time(), 999999);
        due("invalid rather than that", m.run(1001), BAD);
        due("by 1 from 999999", m.run(1), 1000000);
        due("by 1 from 1000000", m.run(1), FULL);
        due("invalid from there", m.run(0), BAD);
        due("idle frames", m.total(2), 1000000);
        check.of("Promise 37: the time may pass 1000000");
        due("a request at the end", m.requestDirectory(0), 1);
        due("is sent in the simulation", m.ticksToEmpty(), 1);
        due("time then", m.time(), 1000000);
    }

    /** Stations with passes and losses, requests of both kinds, a file that ends. */
    private static OrbitMailbox mixed() {
        OrbitMailbox m = new OrbitMailbox();
        m.addStation(1, 0, 1, 1);
        m.addStation(20, 0, 12, 2);
        m.addStation(1, 0, 1, 0);
        m.setLoss(0, 300);
        m.store(320, 9, 30);
        m.run(2);
        m.store(100, 7, 1000);
        for (int s = 0; s < 3; s++) {
            m.requestDirectory(s);
        }
        m.run(8);
        m.open(0, 0);
        m.open(1, 1);
        ask(m, 0, "f0:0-319;");
        ask(m, 1, "f1:0-99;");
        m.requestDirectory(2);
        return m;
    }

    private static void runAtOnce() {
        check.of("Promise 31: makes ticks: many at once are as many one by one");
        for (int ticks = 1; ticks < 40; ticks++) {
            OrbitMailbox once = mixed();
            OrbitMailbox singly = mixed();
            due("run " + ticks, once.run(ticks), 10 + ticks);
            for (int i = 0; i < ticks; i++) {
                singly.run(1);
            }
            check.dueAll("the state", MailboxState.of(once), MailboxState.of(singly));
        }
    }

    private static void droppedOutOfView() {
        check.of("Promise 34, tick 1: requests of stations that are not in view are dropped");
        OrbitMailbox m = new OrbitMailbox();
        m.addStation(10, 0, 3, 0);
        m.store(320, 0, 1000);
        m.run(2);
        due("at the last time of the pass", ask(m, 0, "f0:0-319;"), 1);
        m.run(1);
        check.dueAll("it is sent", frame(m), FILE, 0, 0, 15, 1);
        due("it is not dropped before the next tick", m.queueLength(), 1);
        m.run(1);
        check.dueAll("it is dropped then", totals(m), 1, 0, 3, 0, 1);
        due("the queue is empty", m.queueLength(), 0);
        check.dueAll("an idle frame is sent", frame(m), IDLE, -1, NONE, NONE, 0);
        m.run(10);
        check.dueAll("it does not come back, nor is it counted again", totals(m), 1, 0, 13, 0, 1);
        m.run(7);
        m.requestDirectory(0);
        check.of("Promise 34, tick 1: a request that is done at the last time of a pass is not dropped");
        m.run(1);
        due("an entry in the pass", m.queueLength(), 1);
        m.run(1);
        due("the empty one at its end", m.queueLength(), 0);
        m.run(1);
        check.dueAll("done", totals(m), 1, 2, 21, 1, 1);
    }

    private static void droppedWithItsFile() {
        check.of("Promise 34, tick 1: requests for files that do not exist are dropped");
        OrbitMailbox m = crowded(2);
        m.store(320, 0, 4);
        m.run(1);
        m.store(320, 0, 1000);
        ask(m, 0, "f0:0-319;");
        m.run(2);
        due("at its last time", m.time(), 3);
        m.run(1);
        check.dueAll("it is sent", totals(m), 3, 0, 1, 0, 0);
        due("it waits though the file is gone", m.queueLength(), 1);
        ask(m, 1, "f1:0-319;");
        m.run(1);
        check.dueAll("it is dropped then", totals(m), 4, 0, 1, 0, 1);
        check.dueAll("the other is sent at the same tick", frame(m), FILE, 1, 0, 15, 3);
        check.of("Promise 34, tick 1: a request for the directory stays without files");
        OrbitMailbox gone = watched(0);
        gone.store(20, 0, 2);
        gone.requestDirectory(0);
        gone.run(1);
        gone.requestDirectory(0);
        gone.run(1);
        gone.run(1);
        check.dueAll("none was dropped", totals(gone), 0, 2, 1, 2, 0);
    }

    private static void droppedOnce() {
        check.of("Promise 34, tick 1: a request that goes for both reasons is counted once");
        OrbitMailbox m = new OrbitMailbox();
        m.addStation(10, 0, 3, 0);
        m.store(320, 0, 3);
        ask(m, 0, "f0:0-319;");
        m.run(3);
        check.dueAll("before", totals(m), 3, 0, 0, 0, 0);
        m.run(1);
        check.dueAll("then", totals(m), 3, 0, 1, 0, 1);
    }

    private static void droppedFromAnyPlace() {
        check.of("Promise 34, tick 1: all such requests are removed, and the others keep their order");
        OrbitMailbox m = new OrbitMailbox();
        for (int s = 0; s < 5; s++) {
            m.addStation(100, 0, s % 2 == 0 ? 1 : 100, 2);
        }
        m.store(320, 0, 1000);
        for (int s = 0; s < 5; s++) {
            ask(m, s, "f0:0-319;");
        }
        m.run(2);
        due("three of five are dropped", m.total(4), 3);
        due("two remain", m.queueLength(), 2);
        due("the first of them", m.queued(0, 0), 1);
        due("the second of them", m.queued(1, 0), 3);
        due("the first has the turn", m.queued(0, 5), 2);
        due("the second has not", m.queued(1, 5), 0);
        OrbitMailbox all = new OrbitMailbox();
        for (int s = 0; s < 5; s++) {
            all.addStation(100, 0, 1, 2);
        }
        all.store(320, 0, 1000);
        for (int s = 0; s < 5; s++) {
            ask(all, s, "f0:0-319;");
        }
        all.run(2);
        due("all five are dropped", all.total(4), 5);
        due("and an idle frame is sent", all.total(2), 1);
    }

    private static void droppedWithTheTurn() {
        check.of("Promise 26, tick 1: if one of them had the turn, none has it then");
        OrbitMailbox m = new OrbitMailbox();
        m.addStation(10, 0, 2, 2);
        m.addStation(1, 0, 1, 2);
        m.addStation(1, 0, 1, 1);
        m.store(320, 0, 1000);
        ask(m, 0, "f0:0-319;");
        ask(m, 1, "f0:100-319;");
        m.run(2);
        due("it has one frame left", m.queued(0, 5), 1);
        m.run(1);
        due("it is dropped", m.total(4), 1);
        check.dueAll("the next has a turn of its own", request(m, 0), 1, FILE, 0, 1, 204, 2);
        check.of("Promise 26, tick 1: the turn stays if another is dropped");
        OrbitMailbox other = new OrbitMailbox();
        other.addStation(10, 0, 2, 0);
        other.addStation(1, 0, 1, 2);
        other.store(320, 0, 1000);
        other.run(1);
        ask(other, 1, "f0:0-319;");
        ask(other, 0, "f0:0-319;");
        other.run(2);
        due("another is dropped", other.total(4), 1);
        due("the turn goes on", other.queued(0, 5), 1);
        check.of("Promise 26, tick 1: the directory has the turn then, though it is not first");
        OrbitMailbox last = new OrbitMailbox();
        last.addStation(10, 0, 1, 2);
        last.addStation(1, 0, 1, 0);
        last.addStation(1, 0, 1, 1);
        last.store(320, 0, 1000);
        ask(last, 0, "f0:0-319;");
        ask(last, 1, "f0:0-319;");
        last.run(1);
        last.requestDirectory(2);
        last.run(1);
        check.dueAll("the entry is sent", frame(last), DIRECTORY, 0, 0, 0, 6);
        due("the file request waits", last.queued(0, 0), 1);
        due("the directory has the rest of its turn", last.queued(1, 5), 1);
    }

    private static void sixteenBytes() {
        check.of("Promise 33, tick 2: the bytes from a to the smaller one of b and a + 15");
        // {first byte, last byte, frames, last byte of the first frame, first byte of the last one}
        int[][] holes = {{0, 0, 1, 0, 0}, {0, 14, 1, 14, 0}, {0, 15, 1, 15, 0}, {0, 16, 2, 15, 16},
            {0, 31, 2, 15, 16}, {0, 32, 3, 15, 32}, {5, 19, 1, 19, 5}, {5, 20, 1, 20, 5},
            {5, 21, 2, 20, 21}, {319, 319, 1, 319, 319}, {304, 319, 1, 319, 304},
            {303, 319, 2, 318, 319}, {0, 319, 20, 15, 304}, {1, 319, 20, 16, 305}};
        for (int[] h : holes) {
            String text = "f0:" + h[0] + "-" + h[1] + ";";
            OrbitMailbox m = opened(320, 1000);
            ask(m, 0, text);
            due(text + " frames", m.ticksToEmpty(), h[2]);
            m.run(1);
            check.dueAll(text + " first frame", frame(m), FILE, 0, h[0], h[3], 1);
            due(text + " left", m.queued(0, 4), h[3] == h[1] ? NONE : h[1] - h[3]);
            if (h[2] > 1) {
                m.run(h[2] - 1);
            }
            check.dueAll(text + " last frame", frame(m), FILE, 0, h[4], h[1], 1);
            due(text + " is done", m.queueLength(), 0);
            due(text + " bytes", m.receivedBytes(0, 0), h[1] - h[0] + 1);
        }
    }

    private static void oneHoleAtATime() {
        check.of("Promise 33, tick 2: a frame is of the first hole alone");
        OrbitMailbox m = opened(320, 1000);
        ask(m, 0, "f0:0-3,5-9,11,13-30;");
        int[][] frames = {{0, 3, 3}, {5, 9, 2}, {11, 11, 1}, {13, 28, 1}, {29, 30, NONE}};
        for (int[] f : frames) {
            m.run(1);
            check.dueAll("the frame", frame(m), FILE, 0, f[0], f[1], 1);
            due("holes left", m.queued(0, 3), f[2]);
        }
        due("done", m.total(3), 2);
    }

    /** At time 20 with files 0 to 2, stored at 5, 8 and 12; file 1 ends at the given time. */
    private static OrbitMailbox threeFiles(int end) {
        OrbitMailbox m = watched(0);
        m.run(5);
        m.store(10, 0, 1000);
        m.run(3);
        m.store(10, 0, end - 8);
        m.run(4);
        m.store(10, 0, 1000);
        m.run(8);
        return m;
    }

    /** The first frame for the hole, and how many times of it are left; -4 if it is done. */
    private static void entry(int end, String hole, int file, int first, int last, int left) {
        OrbitMailbox m = threeFiles(end);
        due(hole, ask(m, 0, "d:" + hole + ";"), 1);
        m.run(1);
        check.dueAll(hole + ", the entry", frame(m), DIRECTORY, file, first, last, 1);
        due(hole + ", times left", m.queued(0, 4), left);
        check.dueAll(hole + ", covered", covered(m, 0), first, last);
        due(hole + ", directory", m.directory(0), file < 0 ? 0 : 1 << file);
    }

    private static void entriesAndHoles() {
        check.of("Promise 33, tick 2: f, stored at a or later and at b or earlier, else an empty entry");
        entry(1000, "5", 0, 0, 5, NONE);
        entry(1000, "4-5", 0, 0, 5, NONE);
        entry(1000, "0-5", 0, 0, 5, NONE);
        entry(1000, "5-6", 0, 0, 5, 1);
        entry(1000, "0-20", 0, 0, 5, 15);
        entry(1000, "0-4", -1, 0, 4, NONE);
        entry(1000, "0", -1, 0, 0, NONE);
        entry(1000, "2-3", -1, 0, 3, NONE);
        entry(1000, "6-7", -1, 6, 7, NONE);
        entry(1000, "7", -1, 6, 7, NONE);
        entry(1000, "6-8", 1, 6, 8, NONE);
        entry(1000, "8", 1, 6, 8, NONE);
        entry(1000, "7-9", 1, 6, 8, 1);
        entry(1000, "8-12", 1, 6, 8, 4);
        entry(1000, "9-11", -1, 9, 11, NONE);
        entry(1000, "11", -1, 9, 11, NONE);
        entry(1000, "9-12", 2, 9, 12, NONE);
        entry(1000, "11-13", 2, 9, 12, 1);
        entry(1000, "13-20", -1, 13, 20, NONE);
        entry(1000, "20", -1, 13, 20, NONE);
        entry(1000, "15", -1, 13, 15, NONE);
    }

    private static void entriesOfGoneFiles() {
        check.of("Promise 33, tick 2: an existing file; file 1 at its last time");
        entry(21, "8", 1, 6, 8, NONE);
        entry(21, "9-12", 2, 9, 12, NONE);
        entry(21, "9", -1, 9, 9, NONE);
        check.of("Promise 33, tick 2: an existing file; file 1 just gone");
        entry(20, "8", -1, 6, 8, NONE);
        entry(20, "6-12", 2, 6, 12, NONE);
        entry(20, "12", 2, 6, 12, NONE);
        entry(20, "9", -1, 6, 9, NONE);
        entry(20, "5-8", 0, 0, 5, 3);
        check.of("Promise 33, tick 2: -1 if there is no file before; none exists");
        OrbitMailbox m = watched(0);
        m.run(5);
        m.store(10, 0, 3);
        m.run(3);
        m.requestDirectory(0);
        m.run(1);
        check.dueAll("all times at once", frame(m), DIRECTORY, -1, 0, 8, 1);
        due("which is done", m.queueLength(), 0);
        check.of("Promise 33, tick 2: a file that ends between two entries");
        OrbitMailbox ends = threeFiles(21);
        ends.requestDirectory(0);
        ends.run(1);
        check.dueAll("entry 0, at the last time of file 1", frame(ends), DIRECTORY, 0, 0, 5, 1);
        ends.run(1);
        check.dueAll("entry 2 at the next", frame(ends), DIRECTORY, 2, 6, 12, 1);
    }

    private static void entriesInOneHole() {
        check.of("Promise 33, tick 2: the hole becomes what is left of it after the time of storing");
        OrbitMailbox m = threeFiles(1000);
        m.requestDirectory(0);
        due("times", m.queued(0, 4), 21);
        int[][] frames = {{0, 0, 5, 15}, {1, 6, 8, 12}, {2, 9, 12, 8}, {-1, 13, 20, NONE}};
        for (int[] f : frames) {
            m.run(1);
            check.dueAll("the entry", frame(m), DIRECTORY, f[0], f[1], f[2], 1);
            due("times left", m.queued(0, 4), f[3]);
        }
        check.dueAll("covered", covered(m, 0), 0, 20);
        due("directory", m.directory(0), 7);
        check.of("Promise 33, tick 2: a file stored at the present time is the last entry");
        OrbitMailbox now = watched(0);
        now.run(3);
        now.store(10, 0, 1000);
        now.requestDirectory(0);
        now.run(1);
        check.dueAll("the entry", frame(now), DIRECTORY, 0, 0, 3, 1);
        due("nothing is left", now.queueLength(), 0);
        check.of("Promise 33, tick 2: a file stored behind the request, at a time of its hole or after it");
        OrbitMailbox late = watched(0);
        late.run(3);
        late.requestDirectory(0);
        late.store(10, 0, 1000);
        late.run(1);
        check.dueAll("at the hole's end", frame(late), DIRECTORY, 0, 0, 3, 1);
        OrbitMailbox after = watched(0);
        after.run(3);
        ask(after, 0, "d:0-2;");
        after.store(10, 0, 1000);
        after.run(1);
        check.dueAll("after it", frame(after), DIRECTORY, -1, 0, 2, 1);
    }

    private static void takenWhenOpen() {
        check.of("Promise 35, tick 3: bytes are added at stations that have the file open");
        OrbitMailbox m = crowded(3);
        m.store(20, 0, 1000);
        m.requestDirectory(0);
        m.run(1);
        due("the entry is taken by all", m.directory(0) + m.directory(1) + m.directory(2), 3);
        m.open(0, 0);
        m.open(1, 0);
        m.requestFile(0, 0);
        m.run(1);
        due("at the asking station", m.receivedBytes(0, 0), 16);
        due("at another that has it open", m.receivedBytes(1, 0), 16);
        due("not at one that has not", m.receivedBytes(2, 0), IMPOSSIBLE);
        m.close(1, 0);
        m.open(2, 0);
        m.run(1);
        due("not where it was closed between", m.receivedBytes(1, 0), IMPOSSIBLE);
        due("where it was opened between", m.receivedBytes(2, 0), 4);
        check.dueAll("what 0 has", stationTotals(m, 0), 3, 0, 20, 0);
        check.dueAll("what 1 has", stationTotals(m, 1), 3, 0, 16, 0);
        check.dueAll("what 2 has", stationTotals(m, 2), 3, 0, 4, 0);
        check.of("Promise 35, tick 3: of several open files the one that the frame is of");
        OrbitMailbox two = crowded(1);
        two.store(20, 0, 1000);
        two.run(1);
        two.store(20, 0, 1000);
        two.requestDirectory(0);
        two.run(2);
        two.open(0, 0);
        two.open(0, 1);
        two.requestFile(0, 1);
        two.run(1);
        due("of file 1", two.receivedBytes(0, 1), 16);
        due("not of file 0", two.receivedBytes(0, 0), 0);
    }

    private static void takenWhenReceived() {
        check.of("Promise 35, tick 3: a station that is hit by a loss takes nothing");
        OrbitMailbox m = crowded(2);
        m.store(20, 0, 1000);
        // The value of station 0 at time 0 is 1, that of station 1 is 391.
        m.setLoss(0, 2);
        m.setLoss(1, 391);
        m.requestDirectory(0);
        m.run(1);
        check.dueAll("the entry", frame(m), DIRECTORY, 0, 0, 0, 2);
        due("not at the one hit", m.directory(0), 0);
        due("nothing covered there", m.covered(0, -1), 0);
        due("at the other", m.directory(1), 1);
        due("covered there", m.covered(1, -1), 1);
        due("the request is done all the same", m.total(3), 1);
        check.dueAll("lost", stationTotals(m, 0), 0, 1, 0, 0);
        check.dueAll("received", stationTotals(m, 1), 1, 0, 0, 0);
        OrbitMailbox just = crowded(2);
        just.setLoss(0, 1);
        just.setLoss(1, 392);
        just.run(1);
        due("the rate must be greater than the value", just.lastFrame(4), 1);
        check.of("Promise 35, tick 3: a station that is not in view neither receives nor loses");
        OrbitMailbox far = new OrbitMailbox();
        far.addStation(10, 5, 1, 0);
        far.setLoss(0, 1000);
        far.run(5);
        check.dueAll("before", stationTotals(far, 0), 0, 0, 0, 0);
        far.run(1);
        check.dueAll("at the pass", stationTotals(far, 0), 0, 1, 0, 0);
        far.run(9);
        check.dueAll("behind it", stationTotals(far, 0), 0, 1, 0, 0);
    }

    private static void takenByAFullList() {
        check.of("Promise 12, tick 3: the file is added to the directory, though its times are not");
        OrbitMailbox m = coveredApart(12);
        m.store(1, 0, 1000);
        m.run(2);
        m.store(1, 0, 1000);
        int[] before = covered(m, 0);
        ask(m, 0, "d:61-62;");
        m.run(1);
        check.dueAll("the entry", frame(m), DIRECTORY, 13, 61, 62, 1);
        due("the file is known", m.directory(0) >> 13, 1);
        check.dueAll("the times are not", covered(m, 0), before);
        due("the request is done", m.queueLength(), 0);
        check.of("Promise 35, tick 3: bytes that are not added are not counted");
        OrbitMailbox bytes = oddBytes(12);
        int[] counted = stationTotals(bytes, 0);
        fetch(bytes, 0, "f0:30-50;");
        check.dueAll("but the frames are", stationTotals(bytes, 0), counted[0] + 2, 0, 12, 0);
    }

    private static void turnLengths() {
        check.of("Promise 26: the turn is given for 1 + p frames");
        for (int p = 0; p < 3; p++) {
            OrbitMailbox m = new OrbitMailbox();
            m.addStation(1, 0, 1, p);
            m.addStation(1, 0, 1, 2 - p);
            m.store(320, 0, 1000);
            ask(m, 0, "f0:0-319;");
            ask(m, 1, "f0:160-319;");
            due("none has it before a tick", m.queued(0, 5) + m.queued(1, 5), 0);
            for (int sent = 1; sent <= p; sent++) {
                m.run(1);
                due("it is first in its turn", m.queued(0, 0), 0);
                due("frames left", m.queued(0, 5), 1 + p - sent);
            }
            m.run(1);
            due("the last frame of the turn", m.lastFrame(3), 16 * (p + 1) - 1);
            due("it goes to the end", m.queued(1, 0), 0);
            due("without the turn", m.queued(1, 5), 0);
            due("nor has the other the turn yet", m.queued(0, 5), 0);
            m.run(3 - p);
            due("the other one's turn", m.lastFrame(3), 160 + 16 * (3 - p) - 1);
            due("it goes to the end", m.queued(1, 0), 1);
            m.run(1);
            due("again the first one", m.lastFrame(2), 16 * (p + 1));
            due("with a whole turn", m.queued(p == 0 ? 1 : 0, 5), p);
        }
    }

    private static void turnAndLastHole() {
        check.of("Promise 34, tick 4: done at the last frame of its turn, or before it, or in the next turn");
        for (int p = 0; p < 3; p++) {
            for (int frames = 1; frames <= 4; frames++) {
                OrbitMailbox m = watched(p);
                m.store(320, 0, 1000);
                ask(m, 0, "f0:0-" + (16 * frames - 1) + ";");
                for (int sent = 1; sent < frames; sent++) {
                    m.run(1);
                    due("frames left", m.queued(0, 5), left(p, sent));
                    due("not done", m.total(3), 0);
                }
                m.run(1);
                due("removed", m.queueLength(), 0);
                due("done", m.total(3), 1);
                due("not dropped", m.total(4), 0);
            }
        }
    }

    /** What is left of the turn of one that is alone, after so many frames. */
    private static int left(int priority, int sent) {
        int turn = 1 + priority;
        return (turn - sent % turn) % turn;
    }

    private static void turnOfTheDirectory() {
        check.of("Promise 26: the turn is given to the first request for the directory");
        OrbitMailbox m = crowded(5);
        m.store(320, 0, 1000);
        m.run(3);
        ask(m, 0, "f0:0-319;");
        ask(m, 1, "f0:0-319;");
        ask(m, 2, "d:1,3;");
        ask(m, 3, "f0:0-319;");
        ask(m, 4, "d:2;");
        m.run(1);
        check.dueAll("station 2 before 0 and 4", frame(m), DIRECTORY, -1, 1, 1, 31);
        due("and is at the end then", m.queued(4, 0), 2);
        m.run(1);
        check.dueAll("station 4, the first one now", frame(m), DIRECTORY, -1, 1, 2, 31);
        m.run(1);
        check.dueAll("station 2 again", frame(m), DIRECTORY, -1, 1, 3, 31);
        check.of("Promise 26: or if there is none, to the first request of the queue");
        m.run(1);
        check.dueAll("station 0", frame(m), FILE, 0, 0, 15, 31);
        due("is at the end then", m.queued(2, 0), 0);
        check.of("Promise 26: a request for the directory does not take the turn away");
        OrbitMailbox turn = watched(2);
        turn.addStation(1, 0, 1, 0);
        turn.store(320, 0, 1000);
        ask(turn, 0, "f0:0-319;");
        turn.run(1);
        turn.requestDirectory(1);
        turn.run(2);
        due("the turn is used up first", turn.total(0), 3);
        due("the directory waits", turn.total(1), 0);
        turn.run(1);
        due("and comes then", turn.total(1), 1);
    }

    private static void turnWithoutOthers() {
        check.of("Promise 26: one that is alone goes to the end, where it is first, and has a new turn");
        OrbitMailbox m = watched(2);
        m.store(320, 0, 1000);
        ask(m, 0, "f0:0-319;");
        int[] left = {2, 1, 0, 2, 1, 0, 2};
        for (int l : left) {
            m.run(1);
            due("frames left", m.queued(0, 5), l);
        }
        check.of("Promise 26: one that comes before the end of the turn is sent behind it");
        m.addStation(1, 0, 1, 0);
        m.run(1);
        ask(m, 1, "f0:0;");
        m.run(1);
        due("the last frame of the turn", m.lastFrame(3), 143);
        m.run(1);
        due("station 1", m.lastFrame(3), 0);
        m.run(1);
        due("station 0 goes on", m.lastFrame(3), 159);
        check.of("Promise 26: one that comes behind the end of the turn is sent behind the next");
        m.run(2);
        due("the turn is used up", m.queued(0, 5), 0);
        ask(m, 1, "f0:0;");
        m.run(3);
        due("station 0 again", m.lastFrame(3), 239);
        m.run(1);
        due("station 1", m.lastFrame(3), 0);
    }

    private static void turnAfterDone() {
        check.of("Promise 26, tick 4: when a request is done, no request has the turn");
        OrbitMailbox m = watched(2);
        m.addStation(1, 0, 1, 1);
        m.store(320, 0, 1000);
        ask(m, 0, "f0:0-15;");
        ask(m, 1, "f0:16-319;");
        m.run(1);
        due("one is left", m.queueLength(), 1);
        due("without the turn", m.queued(0, 5), 0);
        due("a new request of the first", ask(m, 0, "f0:100-319;"), 2);
        m.run(1);
        due("the other has a turn of its own", m.queued(0, 5), 1);
        due("and its frame", m.lastFrame(2), 16);
        m.run(1);
        m.run(1);
        due("then the new one", m.lastFrame(2), 100);
        due("with a whole turn", m.queued(0, 5), 2);
    }

    private static void lastFrameArguments() {
        check.of("Promise 33: what: 0 to 4");
        OrbitMailbox m = opened(20, 1000);
        int[] wrong = {-1, 5, HUGE, TINY};
        for (int what : wrong) {
            due("what " + what, m.lastFrame(what), BAD);
            check.of("Errors: INVALID_ARGUMENT rather than NOT_FOUND (promise 33)");
            due("what " + what + " and no frame", new OrbitMailbox().lastFrame(what), BAD);
        }
        m.requestFile(0, 0);
        m.run(1);
        check.dueAll("0 to 4", frame(m), FILE, 0, 0, 15, 1);
    }

    private static void lastFrameOfNone() {
        check.of("Promise 33: NOT_FOUND if no frame has been sent");
        OrbitMailbox m = watched(0);
        m.store(20, 0, 1000);
        m.requestDirectory(0);
        m.ticksToEmpty();
        check.dueAll("before the first tick", frame(m), NONE, NONE, NONE, NONE, NONE);
        m.run(1);
        check.dueAll("then", frame(m), DIRECTORY, 0, 0, 0, 1);
        check.of("Promise 33: NOT_FOUND for what = 2 and 3 if it was an idle frame");
        m.run(1);
        check.dueAll("idle", frame(m), IDLE, -1, NONE, NONE, 1);
        check.of("Promise 33: -1 for an empty entry, which covers times");
        m.requestDirectory(0);
        m.run(1);
        check.dueAll("empty", frame(m), DIRECTORY, -1, 1, 2, 1);
    }

    private static void lastFrameReceivers() {
        check.of("Promise 33: 4: the set of the stations that have received it, as a bit mask");
        OrbitMailbox none = new OrbitMailbox();
        none.run(1);
        due("no station", none.lastFrame(4), 0);
        OrbitMailbox m = crowded(4);
        m.addStation(10, 2, 1, 0);
        m.run(1);
        due("all but the last", m.lastFrame(4), 15);
        m.setLoss(0, 1000);
        m.setLoss(2, 1000);
        m.run(1);
        due("without those that are hit", m.lastFrame(4), 10);
        m.run(1);
        due("with the one that has come", m.lastFrame(4), 26);
        m.setLoss(0, 0);
        m.setLoss(2, 0);
        m.run(9);
        due("without it", m.lastFrame(4), 15);
        m.run(1);
        due("all five", m.lastFrame(4), 31);
        m.addStation(1, 0, 1, 0);
        due("what was sent stays", m.lastFrame(4), 31);
    }

    private static void totalArguments() {
        check.of("Promise 34: what: 0 to 4");
        OrbitMailbox m = new OrbitMailbox();
        int[] wrong = {-1, 5, HUGE, TINY};
        for (int what : wrong) {
            due("what " + what, m.total(what), BAD);
        }
        check.dueAll("0 to 4", totals(m), 0, 0, 0, 0, 0);
    }

    private static void totalCounts() {
        check.of("Promise 34: each frame is counted as one of its kind");
        OrbitMailbox m = opened(20, 1000);
        check.dueAll("an entry and an idle frame", totals(m), 0, 1, 1, 1, 0);
        m.requestFile(0, 0);
        m.run(1);
        check.dueAll("a frame of a file", totals(m), 1, 1, 1, 1, 0);
        m.run(1);
        check.dueAll("its last", totals(m), 2, 1, 1, 2, 0);
        m.requestDirectory(0);
        m.withdraw(0);
        m.run(1);
        check.dueAll("one withdrawn", totals(m), 2, 1, 2, 2, 0);
        m.run(1000);
        check.dueAll("a thousand idle ones", totals(m), 2, 1, 1002, 2, 0);
    }

    private static void stationTotalArguments() {
        check.of("Promise 35: station: number of a station; what: 0 to 3");
        OrbitMailbox m = crowded(2);
        int[] wrong = {-1, 2, 5, HUGE, TINY};
        for (int s : wrong) {
            due("station " + s, m.stationTotal(s, 0), BAD);
        }
        int[] whats = {-1, 4, HUGE, TINY};
        for (int what : whats) {
            due("what " + what, m.stationTotal(0, what), BAD);
            due("what " + what + " and no station", m.stationTotal(2, what), BAD);
        }
        check.dueAll("of the first", stationTotals(m, 0), 0, 0, 0, 0);
        check.dueAll("of the last", stationTotals(m, 1), 0, 0, 0, 0);
    }

    private static void stationTotalFrames() {
        check.of("Promise 35: 0: frames received, idle ones included; 1: frames lost");
        OrbitMailbox m = watched(0);
        m.addStation(10, 2, 3, 0);
        m.run(2);
        check.dueAll("idle ones", stationTotals(m, 0), 2, 0, 0, 0);
        check.dueAll("before the pass", stationTotals(m, 1), 0, 0, 0, 0);
        m.run(10);
        check.dueAll("twelve", stationTotals(m, 0), 12, 0, 0, 0);
        check.dueAll("the pass", stationTotals(m, 1), 3, 0, 0, 0);
        m.setLoss(1, 1000);
        m.run(10);
        check.dueAll("all received", stationTotals(m, 0), 22, 0, 0, 0);
        check.dueAll("the pass that was lost", stationTotals(m, 1), 3, 3, 0, 0);
        m.setLoss(1, 0);
        m.run(10);
        check.dueAll("the next pass", stationTotals(m, 1), 6, 3, 0, 0);
        OrbitMailbox late = new OrbitMailbox();
        late.run(5);
        late.addStation(1, 0, 1, 0);
        check.dueAll("none before it was added", stationTotals(late, 0), 0, 0, 0, 0);
    }

    private static void stationTotalBytes() {
        check.of("Promise 35: 2: bytes that have been added; 3: bytes that it had already");
        OrbitMailbox m = opened(40, 1000);
        String[] texts = {"0-15", "0-15", "8-23", "15-16", "24", "0-15,17-39", "39"};
        int[][] sums = {{16, 0}, {16, 16}, {24, 24}, {24, 26}, {25, 26}, {40, 50}, {40, 51}};
        for (int i = 0; i < texts.length; i++) {
            fetch(m, 0, "f0:" + texts[i] + ";");
            due(texts[i] + " added", m.stationTotal(0, 2), sums[i][0]);
            due(texts[i] + " had", m.stationTotal(0, 3), sums[i][1]);
        }
        m.close(0, 0);
        fetch(m, 0, "f0:0-15;");
        due("closed, added", m.stationTotal(0, 2), 40);
        due("closed, had", m.stationTotal(0, 3), 51);
        m.open(0, 0);
        fetch(m, 0, "f0:0-15;");
        due("opened again, added", m.stationTotal(0, 2), 56);
        due("opened again, had", m.stationTotal(0, 3), 51);
    }
}
