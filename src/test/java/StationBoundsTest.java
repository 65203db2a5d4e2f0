/** The boundary cases of promises 1 to 6, and of the terms "Time and stations". */
public final class StationBoundsTest extends MailboxStates {
    private static final Check check = new Check("StationBoundsTest");

    public static void main(String[] args) {
        newObject();
        newObjectHasNoStation();
        newObjectHasNoFile();
        objectsApart();
        fiveHundredTwelveCalls();
        period();
        offset();
        duration();
        priority();
        fiveStations();
        lossRate();
        viewTimes();
        viewEdges();
        viewWithoutEnd();
        nextViewTimes();
        nextViewEdges();
        receivesTimes();
        receivesEdges();
        hitExactly();
        stationNumbers();
        check.end();
    }

    private static void due(String what, int got, int want) {
        check.due(what, got, want);
    }

    private static void newObject() {
        check.of("Promise 1: without files, stations and requests, at time 0");
        OrbitMailbox m = new OrbitMailbox();
        due("time", m.time(), 0);
        due("fileCount", m.fileCount(), 0);
        due("existingCount", m.existingCount(), 0);
        due("queueLength", m.queueLength(), 0);
        check.dueAll("queued", request(m, 0), NONE, NONE, NONE, NONE, NONE, NONE);
        check.dueAll("lastFrame", frame(m), NONE, NONE, NONE, NONE, NONE);
        check.dueAll("total", totals(m), 0, 0, 0, 0, 0);
        due("ticksToEmpty", m.ticksToEmpty(), 0);
        due("fault", m.fault(), 0);
        due("clearText", m.clearText(), 0);
    }

    private static void newObjectHasNoStation() {
        check.of("Promise 1: a new object has no station 0");
        OrbitMailbox m = new OrbitMailbox();
        m.store(10, 0, 100);
        write(m, "d:0;");
        due("setLoss", m.setLoss(0, 0), BAD);
        due("inView", m.inView(0, 0), BAD);
        due("nextView", m.nextView(0, 0), BAD);
        due("receives", m.receives(0, 0), BAD);
        due("directory", m.directory(0), BAD);
        due("unknownFiles", m.unknownFiles(0), BAD);
        due("covered", m.covered(0, -1), BAD);
        due("timeHole", m.timeHole(0, -1), BAD);
        due("open", m.open(0, 0), BAD);
        due("close", m.close(0, 0), BAD);
        due("receivedBytes", m.receivedBytes(0, 0), BAD);
        due("receivedByte", m.receivedByte(0, 0, 0), BAD);
        due("byteHole", m.byteHole(0, 0, -1), BAD);
        due("completeFiles", m.completeFiles(0), BAD);
        due("requestDirectory", m.requestDirectory(0), BAD);
        due("requestFile", m.requestFile(0, 0), BAD);
        due("withdraw", m.withdraw(0), BAD);
        due("requestText", m.requestText(0), BAD);
        due("stationTotal", m.stationTotal(0, 0), BAD);
        due("ticksToComplete", m.ticksToComplete(0, 0), BAD);
    }

    private static void newObjectHasNoFile() {
        check.of("Promise 1: a new object has no file 0");
        OrbitMailbox m = watched(0);
        due("fileInfo", m.fileInfo(0, 0), BAD);
        due("fileByte", m.fileByte(0, 0), BAD);
        due("open", m.open(0, 0), BAD);
        due("close", m.close(0, 0), BAD);
        due("receivedBytes", m.receivedBytes(0, 0), BAD);
        due("receivedByte", m.receivedByte(0, 0, 0), BAD);
        due("byteHole", m.byteHole(0, 0, -1), BAD);
        due("requestFile", m.requestFile(0, 0), BAD);
        due("requestText", ask(m, 0, "f0:0;"), IMPOSSIBLE);
        due("ticksToComplete", m.ticksToComplete(0, 0), BAD);
        due("directory", m.directory(0), 0);
        due("unknownFiles", m.unknownFiles(0), 0);
        due("covered", m.covered(0, -1), 0);
        due("completeFiles", m.completeFiles(0), 0);
        check.dueAll("stationTotal", stationTotals(m, 0), 0, 0, 0, 0);
    }

    private static void objectsApart() {
        check.of("Promise 1: what one object does is nothing to another");
        OrbitMailbox m = opened(20, 100);
        OrbitMailbox other = new OrbitMailbox();
        m.requestFile(0, 0);
        m.type('d');
        m.run(1);
        due("time", other.time(), 0);
        due("fileCount", other.fileCount(), 0);
        due("station 0", other.directory(0), BAD);
        due("queueLength", other.queueLength(), 0);
        due("fault", other.fault(), 0);
        due("lastFrame", other.lastFrame(0), NONE);
    }

    private static void fiveHundredTwelveCalls() {
        check.of("What it is: an object is used for at most 512 calls");
        OrbitMailbox m = new OrbitMailbox();
        for (int i = 1; i <= 511; i++) {
            due("run, call " + i, m.run(1000), 1000 * i);
        }
        due("the last call", m.run(1000), 512000);
        m = watched(0);
        for (int i = 2; i <= 511; i++) {
            due("requestDirectory, call " + i, m.requestDirectory(0), i == 2 ? 1 : IMPOSSIBLE);
        }
        due("the last call", m.withdraw(0), 0);
    }

    private static void period() {
        check.of("Promise 2: period: 1 to 1000");
        OrbitMailbox m = new OrbitMailbox();
        due("0", m.addStation(0, 0, 1, 0), BAD);
        due("0, and duration 0", m.addStation(0, 0, 0, 0), BAD);
        due("-1", m.addStation(-1, 0, 1, 0), BAD);
        due("1001", m.addStation(1001, 0, 1, 0), BAD);
        due("the least int", m.addStation(TINY, 0, 1, 0), BAD);
        due("the greatest int", m.addStation(HUGE, 0, 1, 0), BAD);
        due("1", m.addStation(1, 0, 1, 0), 0);
        due("1000", m.addStation(1000, 0, 1, 0), 1);
        due("1000 means 999 is no pass", m.inView(1, 999), 0);
        due("1000 means 1000 is one", m.inView(1, 1000), 1);
    }

    private static void offset() {
        check.of("Promise 2: offset: 0 to 1000");
        OrbitMailbox m = new OrbitMailbox();
        due("-1", m.addStation(10, -1, 1, 0), BAD);
        due("1001", m.addStation(10, 1001, 1, 0), BAD);
        due("the least int", m.addStation(10, TINY, 1, 0), BAD);
        due("the greatest int", m.addStation(10, HUGE, 1, 0), BAD);
        due("0", m.addStation(10, 0, 1, 0), 0);
        due("1000", m.addStation(10, 1000, 1, 0), 1);
        due("0 is in view at 0", m.inView(0, 0), 1);
        due("1000 is not at 990", m.inView(1, 990), 0);
        due("1000 is not at 999", m.inView(1, 999), 0);
        due("1000 is at 1000", m.inView(1, 1000), 1);
        due("1000 is at 1010", m.inView(1, 1010), 1);
    }

    private static void duration() {
        check.of("Promise 2: duration: 1 to period");
        OrbitMailbox m = new OrbitMailbox();
        due("0", m.addStation(10, 0, 0, 0), BAD);
        due("-1", m.addStation(10, 0, -1, 0), BAD);
        due("the least int", m.addStation(10, 0, TINY, 0), BAD);
        due("2 of 1", m.addStation(1, 0, 2, 0), BAD);
        due("11 of 10", m.addStation(10, 0, 11, 0), BAD);
        due("1001 of 1000", m.addStation(1000, 0, 1001, 0), BAD);
        due("the greatest int", m.addStation(1000, 0, HUGE, 0), BAD);
        due("1 of 10", m.addStation(10, 0, 1, 0), 0);
        due("1 of 1", m.addStation(1, 0, 1, 0), 1);
        due("10 of 10", m.addStation(10, 0, 10, 0), 2);
        due("1000 of 1000", m.addStation(1000, 0, 1000, 0), 3);
        due("9 of 10", m.addStation(10, 0, 9, 0), 4);
        due("1 of 10 ends", m.inView(0, 1), 0);
        due("9 of 10 ends", m.inView(4, 9), 0);
        due("10 of 10 has no end", m.inView(2, 10), 1);
        due("1000 of 1000 has no end", m.inView(3, 1000), 1);
    }

    private static void priority() {
        check.of("Promise 2: priority: 0 to 2");
        OrbitMailbox m = new OrbitMailbox();
        due("-1", m.addStation(1, 0, 1, -1), BAD);
        due("3", m.addStation(1, 0, 1, 3), BAD);
        due("the least int", m.addStation(1, 0, 1, TINY), BAD);
        due("the greatest int", m.addStation(1, 0, 1, HUGE), BAD);
        due("0", m.addStation(1, 0, 1, 0), 0);
        due("2", m.addStation(1, 0, 1, 2), 1);
        m.store(320, 0, 100);
        ask(m, 0, "f0:0-319;");
        m.run(1);
        due("0 has a turn of one frame", m.queued(0, 5), 0);
        m.withdraw(0);
        ask(m, 1, "f0:0-319;");
        m.run(1);
        due("2 has a turn of three", m.queued(0, 5), 2);
    }

    private static void fiveStations() {
        check.of("Promise 2: CAPACITY_EXCEEDED if there are 5 stations");
        OrbitMailbox m = new OrbitMailbox();
        for (int s = 0; s < 5; s++) {
            due("station " + s + " before it is added", m.directory(s), BAD);
            due("station " + s, m.addStation(1, s, 1, 0), s);
            due("station " + s + " then", m.directory(s), 0);
        }
        due("a sixth", m.addStation(1, 5, 1, 0), FULL);
        due("a sixth again", m.addStation(1, 5, 1, 0), FULL);
        due("there is no station 5", m.directory(5), BAD);
        due("station 4 is as it was", m.inView(4, 4), 1);
        check.of("Errors: INVALID_ARGUMENT rather than CAPACITY_EXCEEDED (promise 2)");
        due("period 0", m.addStation(0, 0, 1, 0), BAD);
        due("offset 1001", m.addStation(1, 1001, 1, 0), BAD);
        due("duration 2 of 1", m.addStation(1, 0, 2, 0), BAD);
        due("priority 3", m.addStation(1, 0, 1, 3), BAD);
    }

    private static void lossRate() {
        check.of("Promise 3: rate: 0 to 1000, initially 0; returns the previous rate");
        OrbitMailbox m = crowded(2);
        due("1000", m.setLoss(0, 1000), 0);
        due("-1", m.setLoss(0, -1), BAD);
        due("1001", m.setLoss(0, 1001), BAD);
        due("the least int", m.setLoss(0, TINY), BAD);
        due("the greatest int", m.setLoss(0, HUGE), BAD);
        due("0", m.setLoss(0, 0), 1000);
        due("0 again", m.setLoss(0, 0), 0);
        due("the other station's is its own", m.setLoss(1, 999), 0);
        due("of a full rate", m.setLoss(1, 1), 999);
        due("station 0's stays", m.setLoss(0, 5), 0);
    }

    private static void viewTimes() {
        check.of("Promise 4: time: 0 to 1000000");
        OrbitMailbox m = watched(0);
        due("-1", m.inView(0, -1), BAD);
        due("0", m.inView(0, 0), 1);
        due("1000000", m.inView(0, 1000000), 1);
        due("1000001", m.inView(0, 1000001), BAD);
        due("the least int", m.inView(0, TINY), BAD);
        due("the greatest int", m.inView(0, HUGE), BAD);
    }

    private static void viewEdges() {
        check.of("Promise 4: in view if t is at least the offset and (t - offset) mod period < duration");
        OrbitMailbox m = new OrbitMailbox();
        m.addStation(20, 5, 6, 0);
        int[][] edges = {{0, 0}, {4, 0}, {5, 1}, {10, 1}, {11, 0}, {24, 0}, {25, 1}, {30, 1},
            {31, 0}, {44, 0}, {45, 1}, {999984, 0}, {999985, 1}, {999990, 1}, {999991, 0}};
        for (int[] edge : edges) {
            due("at " + edge[0], m.inView(0, edge[0]), edge[1]);
        }
        check.of("Promise 4: the offset may be greater than the period");
        m.addStation(3, 1000, 2, 0);
        int[][] late = {{0, 0}, {1, 0}, {997, 0}, {998, 0}, {999, 0}, {1000, 1}, {1001, 1},
            {1002, 0}, {1003, 1}};
        for (int[] edge : late) {
            due("at " + edge[0], m.inView(1, edge[0]), edge[1]);
        }
        check.of("Promise 4: a pass that ends at the last time");
        m.addStation(1000, 1, 1000, 0);
        m.addStation(1000, 1, 999, 0);
        m.addStation(1000, 0, 1, 0);
        due("999 of 1000 from 1", m.inView(3, 1000000), 0);
        due("1000 of 1000 from 1", m.inView(2, 1000000), 1);
        due("1 of 1000 from 0", m.inView(4, 1000000), 1);
        due("the time before", m.inView(4, 999999), 0);
    }

    private static void viewWithoutEnd() {
        check.of("Promise 4: a pass as long as the period begins again when it ends");
        OrbitMailbox m = new OrbitMailbox();
        m.addStation(7, 3, 7, 0);
        due("before the offset", m.inView(0, 2), 0);
        for (int t = 3; t < 25; t++) {
            due("at " + t, m.inView(0, t), 1);
        }
        m.store(320, 0, 100);
        m.run(9);
        ask(m, 0, "f0:0-319;");
        m.run(2);
        due("so a request is not dropped there", m.queueLength(), 1);
        due("nor counted as dropped", m.total(4), 0);
        due("but sent", m.total(0), 2);
    }

    private static void nextViewTimes() {
        check.of("Promise 5: time: 0 to 1000000");
        OrbitMailbox m = watched(0);
        m.addStation(1000, 999, 1, 0);
        m.addStation(1000, 1, 1, 0);
        due("-1", m.nextView(0, -1), BAD);
        due("0", m.nextView(0, 0), 0);
        due("1000000", m.nextView(0, 1000000), 1000000);
        due("1000001", m.nextView(0, 1000001), BAD);
        due("the least int", m.nextView(0, TINY), BAD);
        due("the greatest int", m.nextView(0, HUGE), BAD);
        due("an answer far above 1000000", m.nextView(1, 1000000), 1000999);
        due("an answer just above it", m.nextView(2, 1000000), 1000001);
    }

    private static void nextViewEdges() {
        check.of("Promise 5: the first time, at least the given one, in view");
        OrbitMailbox m = new OrbitMailbox();
        m.addStation(20, 5, 6, 0);
        int[][] edges = {{0, 5}, {4, 5}, {5, 5}, {10, 10}, {11, 25}, {24, 25}, {25, 25}, {30, 30},
            {31, 45}, {999990, 999990}, {999991, 1000005}, {1000000, 1000005}};
        for (int[] edge : edges) {
            due("from " + edge[0], m.nextView(0, edge[0]), edge[1]);
        }
        m.addStation(3, 1000, 1, 0);
        due("from before an offset above the period", m.nextView(1, 0), 1000);
        due("from the last time before it", m.nextView(1, 999), 1000);
        due("from it", m.nextView(1, 1000), 1000);
        due("from behind it", m.nextView(1, 1001), 1003);
        m.addStation(10, 4, 10, 0);
        due("a pass as long as the period, before", m.nextView(2, 3), 4);
        due("a pass as long as the period, its end", m.nextView(2, 13), 13);
        due("a pass as long as the period, begun again", m.nextView(2, 14), 14);
    }

    private static void receivesTimes() {
        check.of("Promise 6: time: 0 to 1000000");
        OrbitMailbox m = watched(0);
        due("-1", m.receives(0, -1), BAD);
        due("0", m.receives(0, 0), 1);
        due("1000000", m.receives(0, 1000000), 1);
        due("1000001", m.receives(0, 1000001), BAD);
        due("the least int", m.receives(0, TINY), BAD);
        due("the greatest int", m.receives(0, HUGE), BAD);
    }

    private static void receivesEdges() {
        check.of("Promise 6: it receives if it is in view and is not hit");
        OrbitMailbox m = new OrbitMailbox();
        m.addStation(10, 5, 3, 0);
        int[][] edges = {{4, 0}, {5, 1}, {7, 1}, {8, 0}, {14, 0}, {15, 1}};
        for (int[] edge : edges) {
            due("without loss, at " + edge[0], m.receives(0, edge[0]), edge[1]);
        }
        m.setLoss(0, 1000);
        for (int t = 0; t < 20; t++) {
            due("with rate 1000, at " + t, m.receives(0, t), 0);
        }
        check.of("Promise 6: hit if the value is less than the rate: the values 0 and 999");
        OrbitMailbox n = crowded(5);
        // The times with the values 0 and 999, reckoned by another program.
        int[] none = {1415, 994, 999197, 197, 998683};
        int[] most = {254, 999313, 2097, 999794, 521};
        for (int s = 0; s < 5; s++) {
            due("value 0, rate 0", n.receives(s, none[s]), 1);
            n.setLoss(s, 1);
            due("value 0, rate 1", n.receives(s, none[s]), 0);
            n.setLoss(s, 999);
            due("value 999, rate 999", n.receives(s, most[s]), 1);
            n.setLoss(s, 1000);
            due("value 999, rate 1000", n.receives(s, most[s]), 0);
        }
    }

    private static void hitExactly() {
        check.of("Promise 6: x * x is the exact square, without overflow");
        OrbitMailbox m = crowded(5);
        // {station, time, value}; 5 is the last time whose square is an int, 383508 a long
        int[][] values = {{0, 0, 1}, {0, 5, 728}, {0, 6, 128}, {0, 7, 977}, {0, 8, 233},
            {0, 383508, 364}, {0, 383509, 107}, {0, 383510, 257}, {0, 383511, 814},
            {0, 1000000, 949}, {1, 1000000, 430}, {2, 1000000, 197}, {3, 1000000, 250},
            {4, 1000000, 110}};
        for (int[] v : values) {
            m.setLoss(v[0], v[2]);
            due("station " + v[0] + " at " + v[1] + ", not hit", m.receives(v[0], v[1]), 1);
            m.setLoss(v[0], v[2] + 1);
            due("station " + v[0] + " at " + v[1] + ", hit", m.receives(v[0], v[1]), 0);
        }
    }

    private static void stationNumbers() {
        check.of("Promises 3 to 6: station: number of a station");
        OrbitMailbox m = crowded(2);
        int[] wrong = {-1, 2, 4, 5, 6, HUGE, TINY};
        for (int s : wrong) {
            due("setLoss " + s, m.setLoss(s, 0), BAD);
            due("inView " + s, m.inView(s, 0), BAD);
            due("nextView " + s, m.nextView(s, 0), BAD);
            due("receives " + s, m.receives(s, 0), BAD);
        }
        for (int s = 0; s < 2; s++) {
            due("setLoss " + s, m.setLoss(s, 0), 0);
            due("inView " + s, m.inView(s, 0), 1);
            due("nextView " + s, m.nextView(s, 0), 0);
            due("receives " + s, m.receives(s, 0), 1);
        }
    }
}
