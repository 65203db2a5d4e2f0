/** For each promise of the document: ordinary calls, the edges it names, and wrong arguments. */
public final class PromisesTest extends MailboxStates {
    private static final Check check = new Check("PromisesTest");

    public static void main(String[] args) {
        constants();
        newObject();
        addStation();
        setLoss();
        inView();
        nextView();
        receives();
        store();
        storeLimits();
        fileInfo();
        fileByte();
        fileCounts();
        directory();
        unknownFiles();
        covered();
        coveredLimit();
        coveredWithGoneFiles();
        timeHole();
        open();
        close();
        receivedBytes();
        receivedByte();
        byteHole();
        byteListLimit();
        completeFiles();
        requestDirectory();
        requestFile();
        requestsOutOfView();
        withdraw();
        withdrawTurn();
        queueAndTurns();
        priorities();
        type();
        clearText();
        faultOfShortTexts();
        faultOfNumbers();
        faultOfHoles();
        requestText();
        requestTextErrors();
        run();
        dropped();
        lastFrame();
        lastFrameOfEntries();
        total();
        stationTotal();
        ticksToComplete();
        ticksToCompleteBehindTurns();
        ticksToCompleteChangesNothing();
        ticksToCompleteLimit();
        ticksToEmpty();
        check.end();
    }

    private static void due(String what, int got, int want) {
        check.due(what, got, want);
    }

    private static void constants() {
        due("INVALID_ARGUMENT", OrbitMailbox.INVALID_ARGUMENT, -1);
        due("NOT_POSSIBLE", OrbitMailbox.NOT_POSSIBLE, -2);
        due("CAPACITY_EXCEEDED", OrbitMailbox.CAPACITY_EXCEEDED, -3);
        due("NOT_FOUND", OrbitMailbox.NOT_FOUND, -4);
        due("IDLE", OrbitMailbox.IDLE, 0);
        due("FILE", OrbitMailbox.FILE, 1);
        due("DIRECTORY", OrbitMailbox.DIRECTORY, 2);
    }

    // Promise 1
    private static void newObject() {
        OrbitMailbox m = new OrbitMailbox();
        due("new time", m.time(), 0);
        due("new fileCount", m.fileCount(), 0);
        due("new existingCount", m.existingCount(), 0);
        due("new queueLength", m.queueLength(), 0);
        due("new directory(0)", m.directory(0), BAD);
        due("new clearText", m.clearText(), 0);
        for (int what = 0; what < 5; what++) {
            due("new total", m.total(what), 0);
            due("new lastFrame", m.lastFrame(what), NONE);
        }
        due("new ticksToEmpty", m.ticksToEmpty(), 0);
    }

    // Promise 2
    private static void addStation() {
        OrbitMailbox m = new OrbitMailbox();
        int[][] wrong = {{0, 0, 1, 0}, {1001, 0, 1, 0}, {5, -1, 1, 0}, {5, 1001, 1, 0},
            {5, 0, 0, 0}, {5, 0, 6, 0}, {5, 0, 5, -1}, {5, 0, 5, 3}, {HUGE, 0, 1, 0},
            {TINY, 0, TINY, 0}, {5, HUGE, 1, 0}};
        for (int[] w : wrong) {
            due("addStation wrong", m.addStation(w[0], w[1], w[2], w[3]), BAD);
        }
        due("no station after errors", m.inView(0, 0), BAD);
        due("addStation first", m.addStation(1, 0, 1, 0), 0);
        due("addStation greatest", m.addStation(1000, 1000, 1000, 2), 1);
        due("addStation third", m.addStation(5, 0, 5, 1), 2);
        due("addStation fourth", m.addStation(5, 0, 1, 1), 3);
        due("addStation fifth", m.addStation(5, 0, 1, 1), 4);
        due("addStation sixth", m.addStation(5, 0, 1, 1), FULL);
        due("addStation wrong rather than full", m.addStation(5, 0, 6, 1), BAD);
        due("station 5", m.directory(5), BAD);
        due("station 4", m.directory(4), 0);
    }

    // Promise 3
    private static void setLoss() {
        OrbitMailbox m = watched(0);
        due("setLoss from 0", m.setLoss(0, 1000), 0);
        due("setLoss from 1000", m.setLoss(0, 7), 1000);
        due("setLoss -1", m.setLoss(0, -1), BAD);
        due("setLoss 1001", m.setLoss(0, 1001), BAD);
        due("setLoss no station", m.setLoss(1, 5), BAD);
        due("setLoss station -1", m.setLoss(-1, 5), BAD);
        due("setLoss station huge", m.setLoss(HUGE, 5), BAD);
        due("setLoss kept", m.setLoss(0, 0), 7);
    }

    // Promise 4
    private static void inView() {
        OrbitMailbox m = new OrbitMailbox();
        m.addStation(20, 5, 6, 0);
        m.addStation(7, 3, 7, 0);
        int[][] dues = {{0, 0}, {4, 0}, {5, 1}, {10, 1}, {11, 0}, {24, 0}, {25, 1}, {30, 1},
            {31, 0}, {1000000, 0}, {999985, 1}, {999990, 1}, {999991, 0}};
        for (int[] d : dues) {
            due("inView at " + d[0], m.inView(0, d[0]), d[1]);
        }
        due("inView always, before the offset", m.inView(1, 2), 0);
        due("inView always, at the offset", m.inView(1, 3), 1);
        due("inView always, at the end", m.inView(1, 1000000), 1);
        due("inView time -1", m.inView(0, -1), BAD);
        due("inView time 1000001", m.inView(0, 1000001), BAD);
        due("inView no station", m.inView(2, 0), BAD);
        due("inView station -1", m.inView(-1, 0), BAD);
    }

    // Promise 5
    private static void nextView() {
        OrbitMailbox m = new OrbitMailbox();
        m.addStation(20, 5, 6, 0);
        m.addStation(1000, 1000, 1, 0);
        int[][] dues = {{0, 5}, {5, 5}, {10, 10}, {11, 25}, {24, 25}, {25, 25}, {30, 30}, {31, 45},
            {1000000, 1000005}};
        for (int[] d : dues) {
            due("nextView from " + d[0], m.nextView(0, d[0]), d[1]);
        }
        due("nextView seldom", m.nextView(1, 0), 1000);
        due("nextView seldom, in view", m.nextView(1, 1000), 1000);
        due("nextView seldom, next", m.nextView(1, 1001), 2000);
        due("nextView seldom, last", m.nextView(1, 1000000), 1000000);
        due("nextView time -1", m.nextView(0, -1), BAD);
        due("nextView time 1000001", m.nextView(0, 1000001), BAD);
        due("nextView no station", m.nextView(2, 0), BAD);
        due("nextView station -1", m.nextView(-1, 0), BAD);
    }

    // Promise 6
    private static void receives() {
        OrbitMailbox m = new OrbitMailbox();
        m.addStation(1, 0, 1, 0);
        m.addStation(10, 0, 3, 0);
        m.addStation(1, 0, 1, 0);
        m.addStation(1, 0, 1, 0);
        m.addStation(1, 0, 1, 0);
        due("receives without loss", m.receives(0, 0), 1);
        due("receives in view", m.receives(1, 2), 1);
        due("receives out of view", m.receives(1, 3), 0);
        // {station, time, what the rate must exceed for a hit}, reckoned by hand
        int[][] hits = {{0, 0, 1}, {0, 1, 803}, {0, 3, 670}, {1, 0, 391}, {4, 0, 798},
            {0, 1000000, 949}, {4, 1000000, 110}, {2, 999999, 684}, {0, 400000, 498}};
        for (int[] h : hits) {
            m.setLoss(h[0], h[2]);
            due("receives " + h[0] + " at " + h[1] + ", just not hit", m.receives(h[0], h[1]), 1);
            m.setLoss(h[0], h[2] + 1);
            due("receives " + h[0] + " at " + h[1] + ", just hit", m.receives(h[0], h[1]), 0);
        }
        m.setLoss(1, 1000);
        due("receives nothing", m.receives(1, 10), 0);
        due("receives time -1", m.receives(0, -1), BAD);
        due("receives time 1000001", m.receives(0, 1000001), BAD);
        due("receives no station", m.receives(5, 0), BAD);
        due("receives station -1", m.receives(-1, 0), BAD);
    }

    // Promise 7
    private static void store() {
        OrbitMailbox m = new OrbitMailbox();
        int[][] wrong = {{0, 0, 1}, {321, 0, 1}, {1, -1, 1}, {1, 256, 1}, {1, 0, 0}, {1, 0, 100001},
            {HUGE, 0, 1}, {1, 0, HUGE}, {TINY, TINY, TINY}};
        for (int[] w : wrong) {
            due("store wrong", m.store(w[0], w[1], w[2]), BAD);
        }
        due("no file after errors", m.fileCount(), 0);
        due("store first", m.store(1, 0, 1), 0);
        due("store at the same time", m.store(1, 0, 1), IMPOSSIBLE);
        due("store wrong rather than at the same time", m.store(0, 0, 1), BAD);
        m.run(1);
        due("store greatest", m.store(320, 255, 100000), 1);
        due("store changed nothing by errors", m.fileCount(), 2);
    }

    // Promise 7: 8 files at a time, 30 in all
    private static void storeLimits() {
        OrbitMailbox m = new OrbitMailbox();
        for (int i = 0; i < 8; i++) {
            due("store " + i, m.store(1 + i, i, 10 - i), i);
            m.run(1);
        }
        due("eight exist", m.existingCount(), 8);
        due("store ninth", m.store(1, 0, 1), FULL);
        due("store ninth wrong", m.store(1, 0, 0), BAD);
        m.run(1);
        due("store eighth at its time still full", m.store(1, 0, 1), FULL);
        m.run(1);
        due("all gone at once", m.existingCount(), 0);
        for (int i = 8; i < 30; i++) {
            due("store " + i, m.store(1, 0, 1), i);
            due("store at the same time rather than full", m.store(1, 0, 1), IMPOSSIBLE);
            m.run(1);
        }
        due("store the 31st", m.store(1, 0, 1), FULL);
        due("fileCount 30", m.fileCount(), 30);
        due("fileInfo of the last", m.fileInfo(29, 0), 1);
        due("fileInfo behind the last", m.fileInfo(30, 0), BAD);
    }

    // Promise 8
    private static void fileInfo() {
        OrbitMailbox m = new OrbitMailbox();
        m.run(3);
        m.store(77, 9, 4);
        due("fileInfo length", m.fileInfo(0, 0), 77);
        due("fileInfo time", m.fileInfo(0, 1), 3);
        due("fileInfo lifetime", m.fileInfo(0, 2), 4);
        due("fileInfo exists", m.fileInfo(0, 3), 1);
        m.run(3);
        due("fileInfo exists at its last time", m.fileInfo(0, 3), 1);
        m.run(1);
        due("fileInfo exists no more", m.fileInfo(0, 3), 0);
        due("fileInfo length still", m.fileInfo(0, 0), 77);
        due("fileInfo what -1", m.fileInfo(0, -1), BAD);
        due("fileInfo what 4", m.fileInfo(0, 4), BAD);
        due("fileInfo file 1", m.fileInfo(1, 0), BAD);
        due("fileInfo file -1", m.fileInfo(-1, 0), BAD);
        due("fileInfo file huge", m.fileInfo(HUGE, 0), BAD);
    }

    // Promise 9
    private static void fileByte() {
        OrbitMailbox m = new OrbitMailbox();
        m.store(320, 5, 1);
        m.run(1);
        m.store(10, 255, 1);
        int[] first = {5, 36, 67, 99, 131, 163, 196, 229, 6, 39};
        for (int k = 0; k < first.length; k++) {
            due("fileByte " + k + " of a file that is gone", m.fileByte(0, k), first[k]);
        }
        due("fileByte 319", m.fileByte(0, 319), 111);
        due("fileByte 320", m.fileByte(0, 320), NONE);
        due("fileByte first", m.fileByte(1, 0), 255);
        due("fileByte second", m.fileByte(1, 1), 30);
        due("fileByte 10 of 10", m.fileByte(1, 10), NONE);
        due("fileByte huge", m.fileByte(1, HUGE), NONE);
        due("fileByte -1", m.fileByte(1, -1), BAD);
        due("fileByte no file", m.fileByte(2, 0), BAD);
        due("fileByte no file, too long", m.fileByte(2, 1000), BAD);
        due("fileByte file -1", m.fileByte(-1, 0), BAD);
    }

    // Promises 10 and 11
    private static void fileCounts() {
        OrbitMailbox m = new OrbitMailbox();
        m.store(1, 0, 3);
        m.run(1);
        m.store(1, 0, 1);
        due("fileCount", m.fileCount(), 2);
        due("existingCount", m.existingCount(), 2);
        m.run(1);
        due("fileCount stays", m.fileCount(), 2);
        due("existingCount falls", m.existingCount(), 1);
        m.run(1);
        due("existingCount at the end of the first", m.existingCount(), 0);
        due("fileCount at the end", m.fileCount(), 2);
    }

    // Promise 12
    private static void directory() {
        OrbitMailbox m = watched(0);
        m.addStation(1, 2, 1, 0);
        m.store(1, 0, 2);
        m.run(1);
        m.store(1, 0, 50);
        m.requestDirectory(0);
        due("directory before", m.directory(0), 0);
        m.run(1);
        due("directory with file 0", m.directory(0), 1);
        m.run(1);
        due("directory with both, one gone", m.directory(0), 3);
        due("directory of one that saw the second alone", m.directory(1), 2);
        due("directory of none", m.directory(2), BAD);
        due("directory of -1", m.directory(-1), BAD);
        due("directory of huge", m.directory(HUGE), BAD);
    }

    // Promise 13
    private static void unknownFiles() {
        OrbitMailbox m = watched(0);
        due("unknownFiles without files", m.unknownFiles(0), 0);
        m.store(1, 0, 5);
        m.run(1);
        m.store(1, 0, 4);
        due("unknownFiles", m.unknownFiles(0), 2);
        m.requestDirectory(0);
        m.run(1);
        due("unknownFiles when one is known", m.unknownFiles(0), 1);
        m.withdraw(0);
        m.run(2);
        due("unknownFiles at the last time", m.unknownFiles(0), 1);
        m.run(1);
        due("unknownFiles when they are gone", m.unknownFiles(0), 0);
        due("unknownFiles of none", m.unknownFiles(1), BAD);
        due("unknownFiles of -1", m.unknownFiles(-1), BAD);
    }

    // Promise 14
    private static void covered() {
        OrbitMailbox m = watched(0);
        due("covered nothing", m.covered(0, -1), 0);
        due("covered no interval", m.covered(0, 0), NONE);
        m.run(2);
        m.store(1, 0, 100);
        m.run(4);
        due("ask an empty entry", ask(m, 0, "d:5;"), 1);
        m.run(1);
        due("covered from behind the file", m.covered(0, 0), 3);
        due("covered to the hole's end", m.covered(0, 1), 5);
        due("covered once", m.covered(0, -1), 1);
        due("covered interval 1", m.covered(0, 2), NONE);
        ask(m, 0, "d:0-1;");
        m.run(1);
        due("covered twice", m.covered(0, -1), 2);
        due("covered begin 0", m.covered(0, 0), 0);
        due("covered end 0", m.covered(0, 1), 1);
        due("covered begin 1", m.covered(0, 2), 3);
        due("covered end 1", m.covered(0, 3), 5);
        due("covered begin 2", m.covered(0, 4), NONE);
        due("covered huge", m.covered(0, HUGE), NONE);
        due("covered -2", m.covered(0, -2), BAD);
        due("covered tiny", m.covered(0, TINY), BAD);
        due("covered no station", m.covered(1, -1), BAD);
        due("covered station -1", m.covered(-1, 0), BAD);
        ask(m, 0, "d:2;");
        m.run(1);
        due("covered merged", m.covered(0, -1), 1);
        due("covered merged begin", m.covered(0, 0), 0);
        due("covered merged end", m.covered(0, 1), 5);
        due("covered of an entry between", m.directory(0), 1);
    }

    // Promises 14 and 15: a list has at most 12 intervals
    private static void coveredLimit() {
        OrbitMailbox m = coveredApart(12);
        due("twelve intervals", m.covered(0, -1), 12);
        due("the last begin", m.covered(0, 22), 56);
        due("the last end", m.covered(0, 23), 58);
        due("no thirteenth", m.covered(0, 24), NONE);
        due("thirteen holes", m.timeHole(0, -1), 13);
        due("the first hole", m.timeHole(0, 1), 0);
        due("the second hole", m.timeHole(0, 2), 4);
        due("the second hole's end", m.timeHole(0, 3), 5);
        due("the last hole", m.timeHole(0, 24), 59);
        due("the last hole's end", m.timeHole(0, 25), 60);
        due("four holes asked for", m.requestDirectory(0), 1);
        due("of them", m.queued(0, 3), 4);
        due("times in them", m.queued(0, 4), 7);
        m.withdraw(0);
        m.store(1, 0, 100);
        m.run(3);
        ask(m, 0, "d:63;");
        m.run(1);
        due("a frame that would make a thirteenth", m.lastFrame(2), 61);
        due("nothing is added", m.covered(0, -1), 12);
        due("the last end stays", m.covered(0, 23), 58);
        ask(m, 0, "d:60-61;");
        m.run(1);
        due("an entry that would make a thirteenth", m.lastFrame(1), 12);
        due("its file is known", m.directory(0) >> 12 & 1, 1);
        due("its times fill the gap from the beginning", m.covered(0, -1), 1);
        due("up to its storing", m.covered(0, 1), 60);
    }

    // An entry covers from behind the storing of the last file before it that still exists.
    private static void coveredWithGoneFiles() {
        OrbitMailbox m = watched(2);
        m.store(1, 0, 100);
        m.run(2);
        m.store(1, 0, 3);
        m.run(2);
        m.store(1, 0, 100);
        ask(m, 0, "d:4;");
        m.run(1);
        due("covers from behind file 1", m.covered(0, 0), 3);
        m.run(1);
        ask(m, 0, "d:4-5;");
        m.run(1);
        due("entry of file 2", m.lastFrame(1), 2);
        due("covers from behind file 0", m.lastFrame(2), 1);
        due("covers to file 2", m.lastFrame(3), 4);
        m.run(1);
        due("then an empty entry", m.lastFrame(1), -1);
        due("that covers from behind file 2", m.lastFrame(2), 5);
        due("to the hole's end", m.lastFrame(3), 5);
        due("file 1 stays unknown", m.directory(0), 4);
        ask(m, 0, "d:0;");
        m.run(1);
        due("a file stored at the hole's only time", m.lastFrame(1), 0);
        due("covers that time from", m.lastFrame(2), 0);
        due("covers that time to", m.lastFrame(3), 0);
        due("and leaves no hole", m.queueLength(), 0);
    }

    // Promise 15
    private static void timeHole() {
        OrbitMailbox m = watched(0);
        due("timeHole count at 0", m.timeHole(0, -1), 1);
        due("timeHole begin at 0", m.timeHole(0, 0), 0);
        due("timeHole end at 0", m.timeHole(0, 1), 0);
        due("timeHole 2", m.timeHole(0, 2), NONE);
        m.run(9);
        due("timeHole end at 9", m.timeHole(0, 1), 9);
        m.requestDirectory(0);
        m.run(1);
        due("timeHole after an empty entry", m.timeHole(0, 0), 10);
        due("timeHole to the present time", m.timeHole(0, 1), 10);
        due("timeHole count", m.timeHole(0, -1), 1);
        due("timeHole huge", m.timeHole(0, HUGE), NONE);
        due("timeHole -2", m.timeHole(0, -2), BAD);
        due("timeHole no station", m.timeHole(1, 0), BAD);
        due("timeHole station -1", m.timeHole(-1, 0), BAD);
    }

    // Promise 16
    private static void open() {
        OrbitMailbox m = watched(2);
        for (int f = 0; f < 5; f++) {
            m.store(10 + f, 0, f == 1 ? 8 : 100);
            m.run(1);
        }
        due("open before it is known", m.open(0, 0), IMPOSSIBLE);
        m.requestDirectory(0);
        m.run(4);
        due("four files known", m.directory(0), 15);
        due("open first", m.open(0, 3), 1);
        due("open again", m.open(0, 3), IMPOSSIBLE);
        due("open one that is gone", m.fileInfo(1, 3), 0);
        due("open second", m.open(0, 1), 2);
        due("open third", m.open(0, 0), 3);
        due("open fourth", m.open(0, 2), FULL);
        due("open an open one rather than full", m.open(0, 1), IMPOSSIBLE);
        due("open an unknown one rather than full", m.open(0, 4), IMPOSSIBLE);
        due("open no file rather than full", m.open(0, 5), BAD);
        due("open file -1", m.open(0, -1), BAD);
        due("open no station", m.open(1, 0), BAD);
        due("open station -1", m.open(-1, 0), BAD);
        due("the fourth is not open", m.receivedBytes(0, 2), IMPOSSIBLE);
        due("the third is open", m.receivedBytes(0, 0), 0);
        m.close(0, 1);
        due("open after close", m.open(0, 2), 3);
        due("the others stay open", m.receivedBytes(0, 3), 0);
    }

    // Promise 17
    private static void close() {
        OrbitMailbox m = opened(40, 100);
        m.requestFile(0, 0);
        m.run(2);
        due("close", m.close(0, 0), 32);
        due("close again", m.close(0, 0), IMPOSSIBLE);
        due("its request stays", m.queueLength(), 1);
        m.run(1);
        due("bytes of a file that is not open are not counted", m.stationTotal(0, 2), 32);
        due("open anew", m.open(0, 0), 1);
        due("nothing received then", m.receivedBytes(0, 0), 0);
        due("all is a hole", m.byteHole(0, 0, 1), 39);
        due("close empty", m.close(0, 0), 0);
        due("close no file", m.close(0, 1), BAD);
        due("close file -1", m.close(0, -1), BAD);
        due("close no station", m.close(1, 0), BAD);
        due("close station -1", m.close(-1, 0), BAD);
    }

    // Promise 18
    private static void receivedBytes() {
        OrbitMailbox m = opened(40, 100);
        due("receivedBytes none", m.receivedBytes(0, 0), 0);
        ask(m, 0, "f0:0-9,20;");
        m.run(2);
        due("receivedBytes in two intervals", m.receivedBytes(0, 0), 11);
        ask(m, 0, "f0:5-12;");
        m.run(1);
        due("receivedBytes counts each once", m.receivedBytes(0, 0), 14);
        m.requestFile(0, 0);
        m.run(3);
        due("receivedBytes all", m.receivedBytes(0, 0), 40);
        m.store(1, 0, 1);
        due("receivedBytes not open", m.receivedBytes(0, 1), IMPOSSIBLE);
        due("receivedBytes no file", m.receivedBytes(0, 2), BAD);
        due("receivedBytes file -1", m.receivedBytes(0, -1), BAD);
        due("receivedBytes no station", m.receivedBytes(1, 0), BAD);
        due("receivedBytes station -1", m.receivedBytes(-1, 0), BAD);
    }

    // Promise 19
    private static void receivedByte() {
        OrbitMailbox m = opened(10, 100);
        ask(m, 0, "f0:2,8-9;");
        due("receivedByte before", m.receivedByte(0, 0, 2), NONE);
        m.run(2);
        due("receivedByte", m.receivedByte(0, 0, 2), 67);
        due("receivedByte beside", m.receivedByte(0, 0, 3), NONE);
        due("receivedByte 1", m.receivedByte(0, 0, 1), NONE);
        due("receivedByte 0", m.receivedByte(0, 0, 0), NONE);
        ask(m, 0, "f0:0;");
        m.run(1);
        due("receivedByte 0 then", m.receivedByte(0, 0, 0), 5);
        due("receivedByte 9", m.receivedByte(0, 0, 9), 39);
        due("receivedByte behind the end", m.receivedByte(0, 0, 10), NONE);
        due("receivedByte huge", m.receivedByte(0, 0, HUGE), NONE);
        due("receivedByte -1", m.receivedByte(0, 0, -1), BAD);
        m.close(0, 0);
        due("receivedByte not open", m.receivedByte(0, 0, 2), IMPOSSIBLE);
        due("receivedByte -1 rather than not open", m.receivedByte(0, 0, -1), BAD);
        due("receivedByte not open rather than behind the end", m.receivedByte(0, 0, 10),
            IMPOSSIBLE);
        due("receivedByte no file", m.receivedByte(0, 1, 0), BAD);
        due("receivedByte no station", m.receivedByte(1, 0, 0), BAD);
        due("receivedByte station -1", m.receivedByte(-1, -1, 0), BAD);
    }

    // Promise 20
    private static void byteHole() {
        OrbitMailbox m = opened(30, 100);
        due("byteHole count", m.byteHole(0, 0, -1), 1);
        due("byteHole begin", m.byteHole(0, 0, 0), 0);
        due("byteHole end", m.byteHole(0, 0, 1), 29);
        ask(m, 0, "f0:4-6,29;");
        m.run(2);
        due("byteHole count of two", m.byteHole(0, 0, -1), 2);
        due("byteHole end 0", m.byteHole(0, 0, 1), 3);
        due("byteHole begin 1", m.byteHole(0, 0, 2), 7);
        due("byteHole end 1", m.byteHole(0, 0, 3), 28);
        due("byteHole begin 2", m.byteHole(0, 0, 4), NONE);
        due("byteHole huge", m.byteHole(0, 0, HUGE), NONE);
        due("byteHole -2", m.byteHole(0, 0, -2), BAD);
        m.requestFile(0, 0);
        m.run(3);
        due("byteHole count of a complete file", m.byteHole(0, 0, -1), 0);
        due("byteHole of a complete file", m.byteHole(0, 0, 0), NONE);
        m.close(0, 0);
        due("byteHole not open", m.byteHole(0, 0, 0), IMPOSSIBLE);
        due("byteHole -2 rather than not open", m.byteHole(0, 0, -2), BAD);
        due("byteHole no file", m.byteHole(0, 1, 0), BAD);
        due("byteHole no station", m.byteHole(1, 0, 0), BAD);
        due("byteHole station -1", m.byteHole(-1, 0, 0), BAD);
    }

    // Promises 18 to 20, 23 and 35: a list has at most 12 intervals
    private static void byteListLimit() {
        OrbitMailbox m = oddBytes(12);
        due("thirteen byte holes", m.byteHole(0, 0, -1), 13);
        due("the last begins", m.byteHole(0, 0, 24), 24);
        due("the last ends", m.byteHole(0, 0, 25), 319);
        ask(m, 0, "f0:30-45;");
        m.run(1);
        due("the frame was sent", m.lastFrame(3), 45);
        due("nothing is added", m.receivedBytes(0, 0), 12);
        due("nor counted", m.stationTotal(0, 2), 12);
        due("nor had before", m.stationTotal(0, 3), 0);
        ask(m, 0, "f0:3-12;");
        m.run(1);
        due("a merging frame is added", m.receivedBytes(0, 0), 17);
        due("five bytes are new", m.stationTotal(0, 2), 17);
        due("five are had", m.stationTotal(0, 3), 5);
        ask(m, 0, "f0:30-45;");
        m.run(1);
        due("now there is room", m.receivedBytes(0, 0), 33);
        due("four holes asked for", m.requestFile(0, 0), 1);
        due("of them", m.queued(0, 3), 4);
        due("bytes in them", m.queued(0, 4), 4);
        due("an interval that touches is merged", receivedAfter(oddBytes(12), "f0:24-30;"), 19);
    }

    private static int receivedAfter(OrbitMailbox m, String text) {
        ask(m, 0, text);
        m.run(1);
        return m.receivedBytes(0, 0);
    }

    // Promise 21
    private static void completeFiles() {
        OrbitMailbox m = opened(16, 100);
        due("completeFiles none", m.completeFiles(0), 0);
        ask(m, 0, "f0:0-14;");
        m.run(1);
        due("completeFiles but for a byte", m.completeFiles(0), 0);
        m.requestFile(0, 0);
        m.run(1);
        due("completeFiles", m.completeFiles(0), 1);
        m.store(1, 0, 5);
        m.requestDirectory(0);
        m.run(2);
        m.open(0, 1);
        due("completeFiles with another open", m.completeFiles(0), 1);
        m.requestFile(0, 1);
        m.run(1);
        due("completeFiles both", m.completeFiles(0), 2);
        m.run(100);
        due("completeFiles of files that are gone", m.completeFiles(0), 2);
        m.close(0, 0);
        due("completeFiles after close", m.completeFiles(0), 1);
        due("completeFiles no station", m.completeFiles(1), BAD);
        due("completeFiles station -1", m.completeFiles(-1), BAD);
    }

    // Promise 22
    private static void requestDirectory() {
        OrbitMailbox m = watched(0);
        m.addStation(10, 5, 1, 0);
        m.addStation(1, 0, 1, 0);
        m.run(3);
        due("requestDirectory", m.requestDirectory(0), 1);
        due("its kind", m.queued(0, 1), 2);
        due("its holes", m.queued(0, 3), 1);
        due("its times", m.queued(0, 4), 4);
        due("requestDirectory again", m.requestDirectory(0), IMPOSSIBLE);
        due("requestDirectory out of view", m.requestDirectory(1), IMPOSSIBLE);
        due("requestDirectory of another", m.requestDirectory(2), 2);
        due("requestDirectory at the end", m.queued(1, 0), 2);
        due("requestDirectory no station", m.requestDirectory(3), BAD);
        due("requestDirectory station -1", m.requestDirectory(-1), BAD);
        due("errors change nothing", m.queueLength(), 2);
        m.run(2);
        due("requestDirectory in view", m.requestDirectory(1), 1);
    }

    // Promise 23
    private static void requestFile() {
        OrbitMailbox m = opened(20, 30);
        m.addStation(1, 0, 1, 0);
        due("requestFile", m.requestFile(0, 0), 1);
        due("its station", m.queued(0, 0), 0);
        due("its kind", m.queued(0, 1), 1);
        due("its file", m.queued(0, 2), 0);
        due("its bytes", m.queued(0, 4), 20);
        due("requestFile again", m.requestFile(0, 0), IMPOSSIBLE);
        due("requestFile not open", m.requestFile(1, 0), IMPOSSIBLE);
        due("requestFile no file", m.requestFile(0, 1), BAD);
        due("requestFile file -1", m.requestFile(0, -1), BAD);
        due("requestFile no station", m.requestFile(2, 0), BAD);
        due("requestFile station -1", m.requestFile(-1, 0), BAD);
        due("errors change nothing", m.queueLength(), 1);
        m.run(2);
        due("requestFile complete", m.requestFile(0, 0), IMPOSSIBLE);
        m.close(0, 0);
        m.open(0, 0);
        m.run(25);
        due("requestFile at its last time", m.requestFile(0, 0), 1);
        due("the time", m.time(), 29);
        m.withdraw(0);
        m.run(1);
        due("requestFile when it is gone", m.requestFile(0, 0), IMPOSSIBLE);
    }

    // Promises 22, 23 and 30: the station must be in view
    private static void requestsOutOfView() {
        OrbitMailbox m = new OrbitMailbox();
        m.addStation(10, 0, 3, 0);
        m.store(20, 0, 100);
        m.requestDirectory(0);
        m.run(1);
        m.open(0, 0);
        m.run(1);
        due("requestFile in view", m.requestFile(0, 0), 1);
        m.withdraw(0);
        m.run(1);
        due("requestFile out of view", m.requestFile(0, 0), IMPOSSIBLE);
        due("requestDirectory out of view", m.requestDirectory(0), IMPOSSIBLE);
        due("requestText out of view", ask(m, 0, "f0:1;"), IMPOSSIBLE);
        m.run(7);
        due("requestText in view", m.requestText(0), 1);
    }

    // Promise 24
    private static void withdraw() {
        OrbitMailbox m = new OrbitMailbox();
        for (int s = 0; s < 3; s++) {
            m.addStation(1, 0, 1, 0);
        }
        due("withdraw none", m.withdraw(0), NONE);
        m.requestDirectory(2);
        m.requestDirectory(0);
        m.requestDirectory(1);
        due("withdraw", m.withdraw(0), 2);
        due("the first stays", m.queued(0, 0), 2);
        due("the last moves up", m.queued(1, 0), 1);
        due("withdraw again", m.withdraw(0), NONE);
        due("withdraw no station", m.withdraw(3), BAD);
        due("withdraw station -1", m.withdraw(-1), BAD);
        due("not done", m.total(3), 0);
        due("not dropped", m.total(4), 0);
        due("withdraw first", m.withdraw(2), 1);
        due("withdraw last", m.withdraw(1), 0);
        due("queueLength", m.queueLength(), 0);
        m.store(100, 0, 100);
        ask(m, 0, "f0:10,20;");
        m.withdraw(0);
        m.requestDirectory(1);
        due("no hole of it stays", m.queued(0, 3), 1);
    }

    // Promise 24: the turn goes with the request
    private static void withdrawTurn() {
        OrbitMailbox m = watched(2);
        m.addStation(1, 0, 1, 1);
        m.store(200, 0, 100);
        ask(m, 0, "f0:0-199;");
        ask(m, 1, "f0:100-199;");
        m.run(1);
        due("the turn of 0", m.queued(0, 5), 2);
        m.withdraw(0);
        due("no turn then", m.queued(0, 5), 0);
        ask(m, 0, "f0:0-199;");
        due("no turn with the new request", m.queued(1, 5), 0);
        m.run(1);
        due("the turn of 1", m.queued(0, 5), 1);
        due("its frame", m.lastFrame(2), 100);
    }

    // Promises 25 and 26, and the turns
    private static void queueAndTurns() {
        OrbitMailbox m = new OrbitMailbox();
        m.addStation(1, 0, 1, 0);
        m.addStation(1, 0, 1, 2);
        m.addStation(1, 0, 1, 1);
        m.store(200, 0, 100);
        m.run(2);
        ask(m, 0, "f0:0-40;");
        ask(m, 1, "f0:100-199;");
        due("queueLength", m.queueLength(), 2);
        due("no turn before a tick", m.queued(0, 5), 0);
        m.run(1);
        due("0 goes to the end after one frame", m.queued(1, 0), 0);
        due("bytes left", m.queued(1, 4), 25);
        due("1 has not the turn yet", m.queued(0, 5), 0);
        m.run(1);
        due("1 has the turn", m.queued(0, 5), 2);
        due("2 asks for the directory", m.requestDirectory(2), 3);
        m.run(1);
        due("1 keeps the turn", m.lastFrame(2), 116);
        due("1 has a frame left", m.queued(0, 5), 1);
        m.run(1);
        due("1 goes to the end", m.queued(2, 0), 1);
        due("without the turn", m.queued(2, 5), 0);
        m.run(1);
        due("the directory comes before the first one", m.lastFrame(0), 2);
        due("2 has the turn in the middle", m.queued(1, 5), 1);
        due("2 is for the directory", m.queued(1, 1), 2);
        due("2 is for no file", m.queued(1, 2), -1);
        due("2 has a hole left", m.queued(1, 3), 1);
        due("2 has its times left", m.queued(1, 4), 4);
        m.run(1);
        due("2 is done", m.queueLength(), 2);
        m.run(1);
        due("then the first one", m.lastFrame(2), 16);
        due("queued place -1", m.queued(-1, 0), BAD);
        due("queued what -1", m.queued(0, -1), BAD);
        due("queued what 6", m.queued(0, 6), BAD);
        due("queued what 6 rather than no request", m.queued(5, 6), BAD);
        due("queued place 2", m.queued(2, 0), NONE);
        due("queued place huge", m.queued(HUGE, 0), NONE);
    }

    // 1 + p frames in a turn
    private static void priorities() {
        for (int p = 0; p < 3; p++) {
            OrbitMailbox m = watched(p);
            m.addStation(1, 0, 1, 0);
            m.store(320, 0, 100);
            ask(m, 0, "f0:0-159;");
            ask(m, 1, "f0:160-319;");
            m.run(1 + p);
            due("frames of a turn " + p, m.lastFrame(2), 16 * p);
            due("then at the end " + p, m.queued(1, 0), 0);
            m.run(1);
            due("then the other one " + p, m.lastFrame(2), 160);
            m.run(1);
            due("then the first one again " + p, m.lastFrame(2), 16 * (p + 1));
            due("ticksToEmpty " + p, m.ticksToEmpty(), 17 - p);
        }
    }

    // Promise 27
    private static void type() {
        OrbitMailbox m = new OrbitMailbox();
        due("type 31", m.type(31), BAD);
        due("type 127", m.type(127), BAD);
        due("type -1", m.type(-1), BAD);
        due("type 256 + 100", m.type(356), BAD);
        due("type 65536 + 100", m.type(65636), BAD);
        due("type 32", m.type(32), 1);
        due("type 126", m.type(126), 2);
        for (int i = 3; i <= 60; i++) {
            due("type " + i, m.type('d'), i);
        }
        due("type the 61st", m.type('d'), FULL);
        due("type wrong rather than full", m.type(31), BAD);
        due("length after errors", m.clearText(), 60);
        due("type after clearing", m.type('d'), 1);
    }

    // Promise 28
    private static void clearText() {
        OrbitMailbox m = new OrbitMailbox();
        due("clearText empty", m.clearText(), 0);
        write(m, "f00:1-2,");
        due("clearText", m.clearText(), 8);
        due("clearText again", m.clearText(), 0);
        due("fault of the empty text", m.fault(), 0);
        write(m, "d:0;");
        due("nothing of the old text stays", m.fault(), NONE);
        write(m, "d:123;");
        write(m, "d:1");
        due("not even its digits", m.fault(), 3);
    }

    // Promise 29
    private static void faultOfShortTexts() {
        String[] texts = {"", "x", "D", " d", "d", "dd", "d1", "f", "f:", "fx", "f1", "f12345",
            "f123456", "f1;", "d:", "d:x", "d:-", "d:;", "d:,", "d::", ";", "f-1", "d :", "1"};
        int[] faults = {0, 0, 0, 0, 1, 1, 1, 1, 1, 1, 2, 6, 6, 2, 2, 2, 2, 2, 2, 2, 0, 1, 1, 0};
        for (int i = 0; i < texts.length; i++) {
            due("fault of '" + texts[i] + "'", faultOf(texts[i]), faults[i]);
        }
        due("fault of d:0;", faultOf("d:0;"), NONE);
        due("fault of f0:0;", faultOf("f0:0;"), NONE);
        due("fault of f99999:99999;", faultOf("f99999:99999;"), NONE);
        due("fault of f00000:00000-00000;", faultOf("f00000:00000-00000;"), NONE);
    }

    // Promise 29: numbers
    private static void faultOfNumbers() {
        String[] texts = {"d:5-3", "d:5-3;", "d:5-30;", "d:5-5;", "d:5-", "d:5-;", "d:50-4", "d:123456;",
            "d:5-123456;", "d:5-000006", "d:5-00006;", "d:5-00004;", "d:12345-1234", "d:5 ", "d:5-x",
            "d:5--6", "d:5-6-7", "d:99999-99998;", "d:0-99999;", "d:5-3x", "d:00005-4"};
        int[] faults = {4, 4, NONE, NONE, 4, 4, 5, 7, 9, 4, NONE, 4, 8, 3, 4, 4, 5, 8, NONE, 4, 8};
        for (int i = 0; i < texts.length; i++) {
            due("fault of '" + texts[i] + "'", faultOf(texts[i]), faults[i]);
        }
    }

    // Promise 29: several holes
    private static void faultOfHoles() {
        String[] texts = {"d:0,1;", "d:0,1", "d:0,2;", "d:0-5,6;", "d:0-5,7;", "d:0-5,7", "d:0-5,",
            "d:0-5,;", "d:0,2,4,6;", "d:0,2,4,6,8;", "d:0,2,4,6,", "d:0,2,4,6-9;", "d:0,2,4,5;",
            "d:0,0;", "d:7,3;", "d:7,3", "d:7,30-8;", "d:0;;", "d:0;x", "d:0; ", "d:0,2,4,6;d",
            "d:0,-5;", "f3:10-20,22-30;", "f3:10-20,21-30;", "d:0,10,1", "d:0,10,1;", "d:0,10,12;"};
        int[] faults = {4, 4, NONE, 6, NONE, 7, 6, 6, NONE, 9, 9, NONE, 8, 4, 4, 4, 7, 4, 4, 4, 10, 4,
            NONE, 9, 7, 7, NONE};
        for (int i = 0; i < texts.length; i++) {
            due("fault of '" + texts[i] + "'", faultOf(texts[i]), faults[i]);
        }
        StringBuilder longest = new StringBuilder("f00000:00000-00001,00003-00004,00006-00007,00009-00010;");
        due("fault of a long text", faultOf(longest.toString()), NONE);
        due("fault of a text that fills the place", faultOf(longest + "abcde"), 55);
    }

    // Promise 30
    private static void requestText() {
        OrbitMailbox m = watched(0);
        m.addStation(1, 0, 1, 0);
        m.store(100, 1, 50);
        m.run(10);
        due("requestText of a file", ask(m, 0, "f0:0-9,20,30-35,90-99;"), 1);
        due("its kind", m.queued(0, 1), 1);
        due("its file", m.queued(0, 2), 0);
        due("its holes", m.queued(0, 3), 4);
        due("its bytes", m.queued(0, 4), 27);
        due("the text stays", m.fault(), NONE);
        due("requestText again", m.requestText(0), IMPOSSIBLE);
        due("requestText of another station", m.requestText(1), 2);
        due("the text stays whole", m.clearText(), 22);
        m.run(1);
        due("first hole of 0", m.queued(1, 4), 17);
        m.withdraw(0);
        m.withdraw(1);
        due("requestText of the directory", ask(m, 0, "d:0-3,11;"), 1);
        due("its kind", m.queued(0, 1), 2);
        due("its file", m.queued(0, 2), -1);
        due("its holes", m.queued(0, 3), 2);
        due("its times", m.queued(0, 4), 5);
        m.run(1);
        due("its first frame", m.lastFrame(1), 0);
        due("leaves", m.queued(0, 4), 4);
    }

    // Promise 30: errors
    private static void requestTextErrors() {
        OrbitMailbox m = watched(0);
        m.store(100, 1, 50);
        m.run(10);
        due("no text", m.requestText(0), IMPOSSIBLE);
        due("no station rather than a fault", m.requestText(1), BAD);
        due("station -1", m.requestText(-1), BAD);
        due("a fault", ask(m, 0, "f0:0-9"), IMPOSSIBLE);
        due("a file that was not stored", ask(m, 0, "f1:0-9;"), IMPOSSIBLE);
        due("file 99999", ask(m, 0, "f99999:0-9;"), IMPOSSIBLE);
        due("a hole behind the last byte", ask(m, 0, "f0:0,100;"), IMPOSSIBLE);
        due("a hole that ends behind it", ask(m, 0, "f0:99-100;"), IMPOSSIBLE);
        due("a time to come", ask(m, 0, "d:11;"), IMPOSSIBLE);
        due("times to come", ask(m, 0, "d:0,10-11;"), IMPOSSIBLE);
        due("errors change nothing", m.queueLength(), 0);
        due("the last byte", ask(m, 0, "f0:99;"), 1);
        due("a second request", ask(m, 0, "d:10;"), IMPOSSIBLE);
        m.withdraw(0);
        due("the present time", m.requestText(0), 1);
        m.run(39);
        due("the file's last time", ask(m, 0, "f0:99;"), 1);
        m.withdraw(0);
        m.run(1);
        due("a file that is gone", m.requestText(0), IMPOSSIBLE);
    }

    // Promises 31 and 32
    private static void run() {
        OrbitMailbox m = new OrbitMailbox();
        due("run 0", m.run(0), BAD);
        due("run -1", m.run(-1), BAD);
        due("run 1001", m.run(1001), BAD);
        due("run huge", m.run(HUGE), BAD);
        due("time after errors", m.time(), 0);
        due("run 1", m.run(1), 1);
        due("run 1000", m.run(1000), 1001);
        due("time", m.time(), 1001);
        due("idle frames", m.total(2), 1001);
    }

    // Requests out of view and for files that are gone, also with the turn
    private static void dropped() {
        OrbitMailbox m = new OrbitMailbox();
        m.addStation(10, 0, 3, 2);
        m.addStation(1, 0, 1, 0);
        m.addStation(1, 0, 1, 1);
        m.store(320, 0, 6);
        ask(m, 0, "f0:0-319;");
        m.run(1);
        ask(m, 1, "f0:100-319;");
        m.run(1);
        due("0 has the turn", m.queued(0, 5), 1);
        m.withdraw(0);
        ask(m, 0, "f0:0-319;");
        due("dropped none", m.total(4), 0);
        m.run(2);
        due("0 is dropped out of view", m.total(4), 1);
        due("1 remains", m.queueLength(), 1);
        due("1 is sent", m.lastFrame(2), 116);
        ask(m, 2, "f0:0-319;");
        m.run(2);
        due("1 and 2 at the file's last time", m.queueLength(), 2);
        m.run(1);
        due("both are dropped", m.total(4), 3);
        due("the queue is empty", m.queueLength(), 0);
        due("an idle frame", m.lastFrame(0), 0);
        due("none is done", m.total(3), 0);
        OrbitMailbox n = new OrbitMailbox();
        n.addStation(10, 0, 2, 2);
        n.addStation(1, 0, 1, 1);
        n.store(320, 0, 100);
        ask(n, 0, "f0:0-319;");
        ask(n, 1, "f0:160-319;");
        n.run(2);
        due("0 has a frame left", n.queued(0, 5), 1);
        n.run(1);
        due("dropped with the turn", n.total(4), 1);
        due("the next has a turn of its own", n.queued(0, 5), 1);
        due("and was sent", n.lastFrame(2), 160);
    }

    // Promise 33
    private static void lastFrame() {
        OrbitMailbox m = opened(20, 100);
        m.addStation(10, 0, 1, 0);
        m.addStation(1, 0, 1, 0);
        due("idle kind", m.lastFrame(0), 0);
        due("idle file", m.lastFrame(1), -1);
        due("idle first", m.lastFrame(2), NONE);
        due("idle last", m.lastFrame(3), NONE);
        due("idle receivers", m.lastFrame(4), 1);
        due("lastFrame -1", m.lastFrame(-1), BAD);
        due("lastFrame 5", m.lastFrame(5), BAD);
        m.requestFile(0, 0);
        m.run(1);
        due("file kind", m.lastFrame(0), 1);
        due("file number", m.lastFrame(1), 0);
        due("file first", m.lastFrame(2), 0);
        due("file last", m.lastFrame(3), 15);
        due("file receivers, one of them without it", m.lastFrame(4), 5);
        m.run(1);
        due("rest first", m.lastFrame(2), 16);
        due("rest last", m.lastFrame(3), 19);
        m.setLoss(0, 1000);
        m.run(1);
        due("idle again", m.lastFrame(2), NONE);
        due("receivers without the lossy one", m.lastFrame(4), 4);
        m.run(6);
        due("receivers with the one that comes seldom", m.lastFrame(4), 6);
        due("lastFrame -1 of a new object", new OrbitMailbox().lastFrame(-1), BAD);
        due("lastFrame 5 of a new object", new OrbitMailbox().lastFrame(5), BAD);
    }

    // Promise 33: entries
    private static void lastFrameOfEntries() {
        OrbitMailbox m = watched(2);
        m.run(3);
        m.store(1, 0, 100);
        m.run(2);
        m.store(1, 0, 100);
        m.run(2);
        m.requestDirectory(0);
        int[][] frames = {{2, 0, 0, 3, 1}, {2, 1, 4, 5, 1}, {2, -1, 6, 7, 1}};
        for (int[] frame : frames) {
            m.run(1);
            for (int what = 0; what < 5; what++) {
                due("entry, " + what, m.lastFrame(what), frame[what]);
            }
        }
        due("done", m.total(3), 1);
    }

    // Promise 34
    private static void total() {
        OrbitMailbox m = watched(0);
        m.store(40, 0, 100);
        m.run(2);
        m.requestDirectory(0);
        m.run(2);
        m.open(0, 0);
        m.requestFile(0, 0);
        m.run(2);
        due("frames of files", m.total(0), 2);
        due("frames of the directory", m.total(1), 2);
        due("idle frames", m.total(2), 2);
        due("requests done", m.total(3), 1);
        due("requests dropped", m.total(4), 0);
        m.run(1);
        due("requests done at the last frame", m.total(3), 2);
        due("frames of files then", m.total(0), 3);
        due("total -1", m.total(-1), BAD);
        due("total 5", m.total(5), BAD);
        due("total huge", m.total(HUGE), BAD);
    }

    // Promise 35
    private static void stationTotal() {
        OrbitMailbox m = opened(40, 100);
        m.addStation(4, 0, 1, 0);
        m.requestFile(0, 0);
        m.run(3);
        due("received", m.stationTotal(0, 0), 5);
        due("lost", m.stationTotal(0, 1), 0);
        due("added", m.stationTotal(0, 2), 40);
        due("repeated", m.stationTotal(0, 3), 0);
        due("received in view alone", m.stationTotal(1, 0), 1);
        due("not added without an open file", m.stationTotal(1, 2), 0);
        ask(m, 0, "f0:8-11;");
        m.run(1);
        due("added still", m.stationTotal(0, 2), 40);
        due("repeated then", m.stationTotal(0, 3), 4);
        m.close(0, 0);
        due("added after close", m.stationTotal(0, 2), 40);
        m.setLoss(0, 1000);
        m.setLoss(1, 1000);
        m.run(4);
        due("lost all", m.stationTotal(0, 1), 4);
        due("received still", m.stationTotal(0, 0), 6);
        due("lost in view alone", m.stationTotal(1, 1), 1);
        due("stationTotal -1", m.stationTotal(0, -1), BAD);
        due("stationTotal 4", m.stationTotal(0, 4), BAD);
        due("stationTotal no station", m.stationTotal(2, 0), BAD);
        due("stationTotal station -1", m.stationTotal(-1, 0), BAD);
    }

    // Promise 36
    private static void ticksToComplete() {
        OrbitMailbox m = opened(320, 1000);
        due("all of it", m.ticksToComplete(0, 0), 20);
        due("holes of one byte first", oddBytes(12).ticksToComplete(0, 0), 31);
        m.store(17, 0, 1000);
        due("not open", m.ticksToComplete(0, 1), IMPOSSIBLE);
        due("no file", m.ticksToComplete(0, 2), BAD);
        due("file -1", m.ticksToComplete(0, -1), BAD);
        due("no station", m.ticksToComplete(1, 0), BAD);
        due("station -1", m.ticksToComplete(-1, 0), BAD);
        m.requestDirectory(0);
        due("behind its own request of another kind", m.ticksToComplete(0, 0), 21);
        m.run(1);
        m.requestFile(0, 0);
        m.run(20);
        due("complete", m.ticksToComplete(0, 0), 0);
        OrbitMailbox gone = opened(40, 4);
        due("before it is gone", gone.ticksToComplete(0, 0), NONE);
        OrbitMailbox just = opened(32, 4);
        due("just before it is gone", just.ticksToComplete(0, 0), 2);
        just.run(1);
        due("too late", just.ticksToComplete(0, 0), NONE);
    }

    // Promise 36: turns and priorities count in the simulation as they do really
    private static void ticksToCompleteBehindTurns() {
        OrbitMailbox m = opened(320, 1000);
        m.addStation(1, 0, 1, 2);
        m.requestFile(0, 0);
        m.run(19);
        m.withdraw(0);
        ask(m, 1, "f0:0-199;");
        due("behind a whole turn", m.ticksToComplete(0, 0), 4);
        m.run(1);
        due("behind the rest of it", m.ticksToComplete(0, 0), 3);
        m.requestFile(0, 0);
        m.run(2);
        due("not before", m.completeFiles(0), 0);
        m.run(1);
        due("as it comes really", m.completeFiles(0), 1);
    }

    // Promise 36: nothing is changed really
    private static void ticksToCompleteChangesNothing() {
        OrbitMailbox m = opened(100, 1000);
        m.addStation(1, 0, 1, 2);
        ask(m, 1, "f0:0-63;");
        m.run(1);
        // 16 to 47 come by the other's turn, 16 to 31 again, 48 to 63, then 32 to 99 in five frames
        due("with another's request", m.ticksToComplete(0, 0), 9);
        due("the time stays", m.time(), 3);
        due("the queue stays", m.queueLength(), 1);
        due("the turn stays", m.queued(0, 5), 2);
        due("the holes stay", m.queued(0, 4), 48);
        due("the bytes stay", m.receivedBytes(0, 0), 16);
        due("the frame stays", m.lastFrame(3), 15);
        due("the totals stay", m.total(0), 1);
        due("the station's totals stay", m.stationTotal(0, 0), 3);
        due("again the same", m.ticksToComplete(0, 0), 9);
        due("ticksToEmpty too", m.ticksToEmpty(), 3);
        m.requestFile(0, 0);
        m.run(8);
        due("not before", m.completeFiles(0), 0);
        m.run(1);
        due("as it comes really", m.completeFiles(0), 1);
    }

    /** A station in view every 1000th tick, at time 1 with the open file of so many bytes. */
    private static OrbitMailbox seldom(int length) {
        OrbitMailbox m = new OrbitMailbox();
        m.addStation(1000, 0, 1, 0);
        m.store(length, 0, 100000);
        m.requestDirectory(0);
        m.run(1);
        m.open(0, 0);
        return m;
    }

    // Promise 36: 2000 ticks at most
    private static void ticksToCompleteLimit() {
        due("the first pass", seldom(16).ticksToComplete(0, 0), 1000);
        due("the second pass is the last in 2000", seldom(32).ticksToComplete(0, 0), 2000);
        due("the third pass is too late", seldom(33).ticksToComplete(0, 0), NONE);
        OrbitMailbox later = seldom(32);
        later.run(999);
        due("at a pass", later.ticksToComplete(0, 0), 1001);
        later = seldom(48);
        later.run(999);
        due("after 2001 ticks", later.ticksToComplete(0, 0), NONE);
        OrbitMailbox m = seldom(32);
        m.setLoss(0, 1000);
        due("with nothing but loss", m.ticksToComplete(0, 0), NONE);
        due("no request is left", m.queueLength(), 0);
        due("no time has passed", m.time(), 1);
    }

    // Promise 37
    private static void ticksToEmpty() {
        OrbitMailbox m = opened(100, 1000);
        due("empty", m.ticksToEmpty(), 0);
        m.addStation(6, 1, 2, 1);
        m.requestFile(0, 0);
        due("seven frames", m.ticksToEmpty(), 7);
        m.requestDirectory(1);
        due("and a directory request cut short by the pass", m.ticksToEmpty(), 8);
        due("the queue stays", m.queueLength(), 2);
        due("the time stays", m.time(), 2);
        due("dropped stays", m.total(4), 0);
        m.run(8);
        due("empty really", m.queueLength(), 0);
        due("dropped really", m.total(4), 1);
        OrbitMailbox gone = opened(320, 5);
        gone.requestFile(0, 0);
        due("the file goes", gone.ticksToEmpty(), 4);
        gone.run(3);
        due("at the last time", gone.queueLength(), 1);
        due("one tick drops it", gone.ticksToEmpty(), 1);
    }
}
