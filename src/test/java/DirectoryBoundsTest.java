/** The boundary cases of promises 12 to 21: directories, covered times and open files. */
public final class DirectoryBoundsTest extends MailboxStates {
    private static final Check check = new Check("DirectoryBoundsTest");
    private static final int[] NO_STATIONS = {-1, 1, 5, HUGE, TINY};
    private static final int[] NO_FILES = {-1, 1, 30, HUGE, TINY};

    public static void main(String[] args) {
        stationNumbers();
        fileNumbers();
        directoryEmptyAndFull();
        directoryKeepsGoneFiles();
        unknownEmptyAndFull();
        unknownWhenFilesEnd();
        coveredIndex();
        timeHoleIndex();
        timeHoleOfNothingCovered();
        openThree();
        openWhatIsKnown();
        openErrorsInOrder();
        closeBounds();
        closeLosesAll();
        receivedBytesBounds();
        receivedByteIndex();
        receivedByteErrors();
        byteHoleIndex();
        byteHoleErrors();
        completeBounds();
        check.end();
    }

    private static void due(String what, int got, int want) {
        check.due(what, got, want);
    }

    private static void stationNumbers() {
        check.of("Promises 12 to 21: station: number of a station");
        OrbitMailbox m = opened(20, 1000);
        for (int s : NO_STATIONS) {
            due("directory " + s, m.directory(s), BAD);
            due("unknownFiles " + s, m.unknownFiles(s), BAD);
            due("covered " + s, m.covered(s, -1), BAD);
            due("timeHole " + s, m.timeHole(s, -1), BAD);
            due("open " + s, m.open(s, 0), BAD);
            due("close " + s, m.close(s, 0), BAD);
            due("receivedBytes " + s, m.receivedBytes(s, 0), BAD);
            due("receivedByte " + s, m.receivedByte(s, 0, 0), BAD);
            due("byteHole " + s, m.byteHole(s, 0, -1), BAD);
            due("completeFiles " + s, m.completeFiles(s), BAD);
        }
        check.of("Promises 12 to 21: the last of five stations");
        OrbitMailbox full = crowded(5);
        full.store(20, 0, 1000);
        full.requestDirectory(4);
        full.run(1);
        due("directory", full.directory(4), 1);
        due("unknownFiles", full.unknownFiles(4), 0);
        due("covered", full.covered(4, -1), 1);
        due("timeHole", full.timeHole(4, -1), 1);
        due("open", full.open(4, 0), 1);
        due("receivedBytes", full.receivedBytes(4, 0), 0);
        due("receivedByte", full.receivedByte(4, 0, 0), NONE);
        due("byteHole", full.byteHole(4, 0, -1), 1);
        due("completeFiles", full.completeFiles(4), 0);
        due("close", full.close(4, 0), 0);
        due("directory 5", full.directory(5), BAD);
    }

    private static void fileNumbers() {
        check.of("Promises 16 to 20: file: number of a file that has been stored");
        OrbitMailbox m = opened(20, 1000);
        for (int f : NO_FILES) {
            due("open " + f, m.open(0, f), BAD);
            due("close " + f, m.close(0, f), BAD);
            due("receivedBytes " + f, m.receivedBytes(0, f), BAD);
            due("receivedByte " + f, m.receivedByte(0, f, 0), BAD);
            due("byteHole " + f, m.byteHole(0, f, -1), BAD);
        }
        m.store(20, 0, 1000);
        due("open 1 when it is stored", m.open(0, 1), IMPOSSIBLE);
        due("close 1", m.close(0, 1), IMPOSSIBLE);
        due("receivedBytes 1", m.receivedBytes(0, 1), IMPOSSIBLE);
        due("receivedByte 1", m.receivedByte(0, 1, 0), IMPOSSIBLE);
        due("byteHole 1", m.byteHole(0, 1, -1), IMPOSSIBLE);
        due("open 2", m.open(0, 2), BAD);
    }

    private static void directoryEmptyAndFull() {
        check.of("Promise 12: the set of the files in it, as a bit mask");
        OrbitMailbox m = watched(0);
        due("of none", m.directory(0), 0);
        for (int f = 0; f < 30; f++) {
            m.store(1, 0, 1);
            m.requestDirectory(0);
            due("before the entry of " + f, m.directory(0), (1 << f) - 1);
            m.run(1);
            due("with the entry of " + f, m.directory(0), (2 << f) - 1);
        }
        due("all thirty, none of which exists", m.existingCount(), 0);
        due("the last can be opened", m.open(0, 29), 1);
        due("the first too", m.open(0, 0), 2);
        OrbitMailbox last = watched(0);
        for (int f = 0; f < 30; f++) {
            last.store(1, 0, 1);
            if (f == 29) {
                last.requestDirectory(0);
            }
            last.run(1);
        }
        due("the last alone", last.directory(0), 1 << 29);
        due("whose first cannot be opened", last.open(0, 0), IMPOSSIBLE);
    }

    private static void directoryKeepsGoneFiles() {
        check.of("Promise 12: also of those that do not exist any more");
        OrbitMailbox m = watched(0);
        m.store(1, 0, 2);
        m.requestDirectory(0);
        m.run(1);
        due("while it exists", m.directory(0), 1);
        m.run(1);
        due("when it is gone", m.directory(0), 1);
        m.store(1, 0, 1);
        m.run(1);
        m.requestDirectory(0);
        m.run(1);
        due("one that was gone before it was asked for", m.directory(0), 1);
    }

    private static void unknownEmptyAndFull() {
        check.of("Promise 13: the files that exist, but are not in the directory");
        OrbitMailbox m = watched(0);
        due("no files", m.unknownFiles(0), 0);
        for (int f = 0; f < 8; f++) {
            m.store(1, 0, 1000);
            due("of file " + f, m.unknownFiles(0), f + 1);
            m.run(1);
        }
        m.requestDirectory(0);
        for (int f = 0; f < 8; f++) {
            m.run(1);
            due("with the entry of " + f, m.unknownFiles(0), 7 - f);
        }
    }

    private static void unknownWhenFilesEnd() {
        check.of("Promise 13: a file that is gone is not counted");
        OrbitMailbox m = watched(0);
        m.store(1, 0, 3);
        m.run(2);
        due("at its last time", m.unknownFiles(0), 1);
        m.run(1);
        due("when it is gone", m.unknownFiles(0), 0);
        m.store(1, 0, 5);
        m.requestDirectory(0);
        m.run(1);
        due("one that is known", m.unknownFiles(0), 0);
        m.run(5);
        due("one that is known and gone", m.unknownFiles(0), 0);
    }

    private static void coveredIndex() {
        check.of("Promise 14: index: -1 for the number, 2 * i the beginning, 2 * i + 1 the end");
        OrbitMailbox m = watched(0);
        due("-1 of none", m.covered(0, -1), 0);
        due("0 of none", m.covered(0, 0), NONE);
        due("1 of none", m.covered(0, 1), NONE);
        due("-2 of none", m.covered(0, -2), BAD);
        m.run(1);
        m.requestDirectory(0);
        m.run(1);
        due("-1 of one", m.covered(0, -1), 1);
        due("0 of one", m.covered(0, 0), 0);
        due("1 of one", m.covered(0, 1), 1);
        due("2 of one", m.covered(0, 2), NONE);
        due("3 of one", m.covered(0, 3), NONE);
        OrbitMailbox two = coveredApart(2);
        due("-1 of two", two.covered(0, -1), 2);
        due("1 of two", two.covered(0, 1), 3);
        due("2 of two", two.covered(0, 2), 6);
        due("3 of two", two.covered(0, 3), 8);
        due("4 of two", two.covered(0, 4), NONE);
        due("the greatest even int", two.covered(0, HUGE - 1), NONE);
        due("the greatest int", two.covered(0, HUGE), NONE);
        due("-2", two.covered(0, -2), BAD);
        due("-3", two.covered(0, -3), BAD);
        due("the least int", two.covered(0, TINY), BAD);
        check.of("Errors: INVALID_ARGUMENT rather than NOT_FOUND (promise 14)");
        due("no station and no interval", two.covered(1, 4), BAD);
    }

    private static void timeHoleIndex() {
        check.of("Promise 15: index: -1 for the number, 2 * i the beginning, 2 * i + 1 the end");
        OrbitMailbox m = coveredApart(2);
        due("-1", m.timeHole(0, -1), 3);
        int[] holes = {0, 0, 4, 5, 9, 10};
        for (int i = 0; i < holes.length; i++) {
            due("number " + i, m.timeHole(0, i), holes[i]);
        }
        due("behind the last", m.timeHole(0, 6), NONE);
        due("the one behind", m.timeHole(0, 7), NONE);
        due("the greatest even int", m.timeHole(0, HUGE - 1), NONE);
        due("the greatest int", m.timeHole(0, HUGE), NONE);
        due("-2", m.timeHole(0, -2), BAD);
        due("-3", m.timeHole(0, -3), BAD);
        due("the least int", m.timeHole(0, TINY), BAD);
        check.of("Errors: INVALID_ARGUMENT rather than NOT_FOUND (promise 15)");
        due("no station and no hole", m.timeHole(1, 6), BAD);
    }

    private static void timeHoleOfNothingCovered() {
        check.of("Promise 15: within [0, present time]");
        OrbitMailbox m = watched(0);
        check.dueAll("nothing covered, at time 0", timeHoles(m, 0), 0, 0);
        m.run(1);
        check.dueAll("nothing covered, at time 1", timeHoles(m, 0), 0, 1);
        m.requestDirectory(0);
        m.run(1);
        check.dueAll("all but the present time covered", timeHoles(m, 0), 2, 2);
        m.run(1000);
        check.dueAll("it grows with the time", timeHoles(m, 0), 2, 1002);
    }

    /** A watched one that knows so many files of 20 bytes, none of them open; the last is gone. */
    private static OrbitMailbox knowing(int files) {
        OrbitMailbox m = watched(0);
        for (int f = 0; f < files; f++) {
            m.store(20, f, f == files - 1 ? 1 : 1000);
            m.requestDirectory(0);
            m.run(1);
        }
        return m;
    }

    private static void openThree() {
        check.of("Promise 16: returns the number of open files; CAPACITY_EXCEEDED if there are 3");
        OrbitMailbox m = knowing(5);
        due("the first", m.open(0, 4), 1);
        due("the second", m.open(0, 0), 2);
        due("the third", m.open(0, 2), 3);
        due("a fourth", m.open(0, 1), FULL);
        due("a fourth again", m.open(0, 3), FULL);
        due("it is not open", m.receivedBytes(0, 1), IMPOSSIBLE);
        due("the third is", m.receivedBytes(0, 2), 0);
        due("one closed", m.close(0, 0), 0);
        due("one opened for it", m.open(0, 1), 3);
        due("and again full", m.open(0, 0), FULL);
        due("all closed", m.close(0, 1) + m.close(0, 2) + m.close(0, 4), 0);
        due("the first again", m.open(0, 3), 1);
    }

    private static void openWhatIsKnown() {
        check.of("Promise 16: NOT_POSSIBLE if the file is not in its directory or is open already");
        OrbitMailbox m = watched(0);
        m.store(20, 0, 1000);
        due("not known", m.open(0, 0), IMPOSSIBLE);
        m.requestDirectory(0);
        due("asked for", m.open(0, 0), IMPOSSIBLE);
        m.run(1);
        due("known", m.open(0, 0), 1);
        due("open already", m.open(0, 0), IMPOSSIBLE);
        m.close(0, 0);
        due("closed", m.open(0, 0), 1);
        m.addStation(1, 0, 1, 0);
        due("not known at the other station", m.open(1, 0), IMPOSSIBLE);
        OrbitMailbox gone = knowing(1);
        due("one that is gone", gone.fileInfo(0, 3), 0);
        due("can be opened", gone.open(0, 0), 1);
        due("once", gone.open(0, 0), IMPOSSIBLE);
    }

    private static void openErrorsInOrder() {
        check.of("Errors: INVALID_ARGUMENT, NOT_POSSIBLE, CAPACITY_EXCEEDED in this order (promise 16)");
        OrbitMailbox m = knowing(4);
        m.store(20, 0, 1000);
        m.open(0, 0);
        m.open(0, 1);
        m.open(0, 2);
        due("three open", m.open(0, 3), FULL);
        due("not known and three open", m.open(0, 4), IMPOSSIBLE);
        due("open and three open", m.open(0, 2), IMPOSSIBLE);
        due("no file and three open", m.open(0, 5), BAD);
        due("file -1 and three open", m.open(0, -1), BAD);
        due("no station and three open", m.open(1, 3), BAD);
    }

    private static void closeBounds() {
        check.of("Promise 17: returns the number of bytes that it had received");
        OrbitMailbox m = opened(320, 1000);
        due("none", m.close(0, 0), 0);
        m.open(0, 0);
        fetch(m, 0, "f0:319;");
        due("one", m.close(0, 0), 1);
        m.open(0, 0);
        fetch(m, 0, "f0:0-319;");
        due("all", m.close(0, 0), 320);
        due("of a full list", oddBytes(12).close(0, 0), 12);
        check.of("Promise 17: NOT_POSSIBLE if the file is not open");
        due("closed before", m.close(0, 0), IMPOSSIBLE);
        due("never opened", watchedFile().close(0, 0), IMPOSSIBLE);
        check.of("Errors: INVALID_ARGUMENT rather than NOT_POSSIBLE (promise 17)");
        due("no station, not open", m.close(1, 0), BAD);
        due("no file, not open", m.close(0, 1), BAD);
    }

    private static OrbitMailbox watchedFile() {
        OrbitMailbox m = watched(0);
        m.store(20, 0, 1000);
        return m;
    }

    private static void closeLosesAll() {
        check.of("Promises 16 and 17: what it has received is lost, and nothing is received at first");
        OrbitMailbox m = knowing(3);
        m.open(0, 0);
        m.open(0, 1);
        fetch(m, 0, "f0:3-9;");
        fetch(m, 0, "f1:0-5;");
        due("closed", m.close(0, 0), 7);
        due("opened again", m.open(0, 0), 2);
        due("nothing received", m.receivedBytes(0, 0), 0);
        due("no byte", m.receivedByte(0, 0, 3), NONE);
        check.dueAll("all is a hole", byteHoles(m, 0, 0), 0, 19);
        due("the other keeps its own", m.receivedBytes(0, 1), 6);
        due("closed", m.close(0, 1), 6);
        due("another in its place", m.open(0, 2), 2);
        due("has received nothing", m.receivedBytes(0, 2), 0);
        due("the totals stay", m.stationTotal(0, 2), 13);
    }

    private static void receivedBytesBounds() {
        check.of("Promise 18: the number of different bytes");
        OrbitMailbox m = opened(320, 1000);
        due("none", m.receivedBytes(0, 0), 0);
        fetch(m, 0, "f0:0;");
        due("one", m.receivedBytes(0, 0), 1);
        fetch(m, 0, "f0:0;");
        due("one twice", m.receivedBytes(0, 0), 1);
        fetch(m, 0, "f0:1-319;");
        due("all", m.receivedBytes(0, 0), 320);
        fetch(m, 0, "f0:0-319;");
        due("all twice", m.receivedBytes(0, 0), 320);
        check.of("Promise 18: NOT_POSSIBLE if the file is not open");
        m.close(0, 0);
        due("closed", m.receivedBytes(0, 0), IMPOSSIBLE);
        due("never opened", watchedFile().receivedBytes(0, 0), IMPOSSIBLE);
        check.of("Errors: INVALID_ARGUMENT rather than NOT_POSSIBLE (promise 18)");
        due("no station, not open", m.receivedBytes(1, 0), BAD);
        due("no file, not open", m.receivedBytes(0, 1), BAD);
    }

    private static void receivedByteIndex() {
        check.of("Promise 19: index: 0 or more; NOT_FOUND if it has not received this byte");
        OrbitMailbox m = opened(20, 1000);
        due("-1", m.receivedByte(0, 0, -1), BAD);
        due("the least int", m.receivedByte(0, 0, TINY), BAD);
        due("0 before", m.receivedByte(0, 0, 0), NONE);
        fetch(m, 0, "f0:0,5-7,19;");
        int[] received = {0, 5, 6, 7, 19};
        for (int k : received) {
            due("received " + k, m.receivedByte(0, 0, k), m.fileByte(0, k));
        }
        int[] missing = {1, 4, 8, 18};
        for (int k : missing) {
            due("missing " + k, m.receivedByte(0, 0, k), NONE);
        }
        due("behind the last byte", m.receivedByte(0, 0, 20), NONE);
        due("the greatest int", m.receivedByte(0, 0, HUGE), NONE);
        due("the value of byte 0", m.receivedByte(0, 0, 0), 5);
        OrbitMailbox gone = opened(20, 3);
        gone.requestFile(0, 0);
        gone.run(1);
        due("of a file that is gone", gone.fileInfo(0, 3), 0);
        due("byte 15", gone.receivedByte(0, 0, 15), gone.fileByte(0, 15));
        due("byte 16", gone.receivedByte(0, 0, 16), NONE);
    }

    private static void receivedByteErrors() {
        check.of("Errors: INVALID_ARGUMENT, NOT_POSSIBLE, NOT_FOUND in this order (promise 19)");
        OrbitMailbox m = opened(20, 1000);
        m.close(0, 0);
        due("not open", m.receivedByte(0, 0, 0), IMPOSSIBLE);
        due("not open and behind the last byte", m.receivedByte(0, 0, 20), IMPOSSIBLE);
        due("not open and index -1", m.receivedByte(0, 0, -1), BAD);
        due("no file and behind the last byte", m.receivedByte(0, 1, 20), BAD);
        due("no station and not open", m.receivedByte(1, 0, 0), BAD);
    }

    private static void byteHoleIndex() {
        check.of("Promise 20: index: -1 for the number, 2 * i the beginning, 2 * i + 1 the end");
        OrbitMailbox m = opened(20, 1000);
        due("-1 of one", m.byteHole(0, 0, -1), 1);
        due("0 of one", m.byteHole(0, 0, 0), 0);
        due("1 of one", m.byteHole(0, 0, 1), 19);
        due("2 of one", m.byteHole(0, 0, 2), NONE);
        fetch(m, 0, "f0:4-6,19;");
        due("-1 of two", m.byteHole(0, 0, -1), 2);
        due("1 of two", m.byteHole(0, 0, 1), 3);
        due("2 of two", m.byteHole(0, 0, 2), 7);
        due("3 of two", m.byteHole(0, 0, 3), 18);
        due("4 of two", m.byteHole(0, 0, 4), NONE);
        due("the greatest even int", m.byteHole(0, 0, HUGE - 1), NONE);
        due("the greatest int", m.byteHole(0, 0, HUGE), NONE);
        due("-2", m.byteHole(0, 0, -2), BAD);
        due("the least int", m.byteHole(0, 0, TINY), BAD);
        fetch(m, 0, "f0:0-19;");
        due("-1 of none", m.byteHole(0, 0, -1), 0);
        due("0 of none", m.byteHole(0, 0, 0), NONE);
        due("1 of none", m.byteHole(0, 0, 1), NONE);
        check.of("Promise 20: within [0, length - 1]");
        check.dueAll("of one byte", byteHoles(opened(1, 1000), 0, 0), 0, 0);
        check.dueAll("of 320 bytes", byteHoles(opened(320, 1000), 0, 0), 0, 319);
    }

    private static void byteHoleErrors() {
        check.of("Errors: INVALID_ARGUMENT, NOT_POSSIBLE, NOT_FOUND in this order (promise 20)");
        OrbitMailbox m = opened(20, 1000);
        m.close(0, 0);
        due("not open", m.byteHole(0, 0, -1), IMPOSSIBLE);
        due("not open and no such hole", m.byteHole(0, 0, 2), IMPOSSIBLE);
        due("not open and index -2", m.byteHole(0, 0, -2), BAD);
        due("no file and no such hole", m.byteHole(0, 1, 2), BAD);
        due("no station and not open", m.byteHole(1, 0, -1), BAD);
    }

    private static void completeBounds() {
        check.of("Promise 21: a file is complete if it is open and its list is [0, length - 1]");
        OrbitMailbox m = opened(20, 1000);
        due("nothing received", m.completeFiles(0), 0);
        fetch(m, 0, "f0:0-18;");
        due("all but the last byte", m.completeFiles(0), 0);
        m.close(0, 0);
        m.open(0, 0);
        fetch(m, 0, "f0:1-19;");
        due("all but the first byte", m.completeFiles(0), 0);
        fetch(m, 0, "f0:0;");
        due("all", m.completeFiles(0), 1);
        m.close(0, 0);
        due("closed", m.completeFiles(0), 0);
        m.open(0, 0);
        due("opened again", m.completeFiles(0), 0);
        OrbitMailbox one = opened(1, 3);
        fetch(one, 0, "f0:0;");
        due("of one byte, and gone", one.completeFiles(0), 1);
        due("gone", one.fileInfo(0, 3), 0);
        check.of("Promise 21: three at most");
        OrbitMailbox three = knowing(4);
        for (int f = 0; f < 3; f++) {
            due("before " + f, three.completeFiles(0), f);
            three.open(0, f);
            fetch(three, 0, "f" + f + ":0-19;");
        }
        due("all three", three.completeFiles(0), 3);
        due("no fourth", three.open(0, 3), FULL);
        due("of a station without files", new OrbitMailbox().completeFiles(0), BAD);
    }
}
