import java.util.ArrayList;
import java.util.List;
import java.util.function.Supplier;
import java.util.function.ToIntFunction;

/**
 * "A call that returns an error changes nothing", for each call that can be refused, in several
 * states; and the same of calls that only ask. Of two objects with the same calls, one is called
 * once more; then both must tell the same, at once and some ticks later.
 */
public final class RefusedCallsTest extends MailboxStates {
    private static final Check check = new Check("RefusedCallsTest");
    private static final int MOST_NUMBERS = 300;
    /** Stands for an answer that is of no interest here. */
    private static final int ANY = Integer.MIN_VALUE;

    public static void main(String[] args) {
        check.of("A call that returns an error changes nothing");
        twins("new", OrbitMailbox::new, newCalls());
        twins("busy", RefusedCallsTest::busy, busyCalls());
        twins("full", RefusedCallsTest::full, fullCalls());
        twins("last file", RefusedCallsTest::lastFile, lastFileCalls());
        check.of("A call that only asks changes nothing");
        twins("busy", RefusedCallsTest::busy, questions());
        twins("full", RefusedCallsTest::full, questions());
        check.end();
    }

    private record Call(String name, int want, ToIntFunction<OrbitMailbox> call) {
    }

    private static Call call(String name, int want, ToIntFunction<OrbitMailbox> call) {
        return new Call(name, want, call);
    }

    private static void twins(String state, Supplier<OrbitMailbox> maker, List<Call> calls) {
        int[] now = MailboxState.of(maker.get());
        int[] later = MailboxState.of(run(maker.get()));
        check.holds(state + " leaves room for 512 calls", now.length < MOST_NUMBERS);
        for (Call c : calls) {
            String name = state + ", " + c.name;
            OrbitMailbox called = maker.get();
            int got = c.call.applyAsInt(called);
            if (c.want != ANY) {
                check.due(name, got, c.want);
            }
            check.dueAll(name + ", then", MailboxState.of(called), now);
            called = maker.get();
            c.call.applyAsInt(called);
            check.dueAll(name + ", later", MailboxState.of(run(called)), later);
        }
    }

    private static OrbitMailbox run(OrbitMailbox m) {
        m.run(6);
        return m;
    }

    /**
     * At time 12: file 0 open and partly received at stations 0 and 2, file 1 gone, file 2 stored
     * at this time, station 0 in the middle of its turn, station 1 out of view, station 3 waiting
     * for the directory; the text has a fault.
     */
    private static OrbitMailbox busy() {
        OrbitMailbox m = new OrbitMailbox();
        m.addStation(1, 0, 1, 2);
        m.addStation(10, 0, 2, 1);
        m.addStation(1, 0, 1, 1);
        m.addStation(1, 0, 1, 0);
        m.setLoss(2, 300);
        m.store(100, 9, 1000);
        m.requestDirectory(0);
        m.run(1);
        m.store(50, 1, 5);
        m.requestDirectory(0);
        m.requestDirectory(2);
        m.run(4);
        m.open(0, 0);
        m.open(2, 0);
        m.open(2, 1);
        fetch(m, 0, "f0:20-30,40;");
        m.run(4);
        ask(m, 0, "f0:0-99;");
        m.run(1);
        m.requestDirectory(3);
        m.store(320, 3, 1000);
        write(m, "f0:1-5,3;");
        return m;
    }

    /** Five stations, all with requests, eight files, three open ones, a text of 60 characters. */
    private static OrbitMailbox full() {
        OrbitMailbox m = crowded(5);
        for (int f = 0; f < 8; f++) {
            m.store(20 + f, f, 1000);
            m.run(1);
        }
        m.requestDirectory(0);
        m.run(9);
        m.open(0, 0);
        m.open(0, 1);
        m.open(0, 2);
        fetch(m, 0, "f0:0-19;");
        for (int s = 4; s >= 0; s--) {
            m.requestDirectory(s);
        }
        write(m, "f0:0;");
        for (int i = 5; i < 60; i++) {
            m.type('x');
        }
        return m;
    }

    /** All thirty files stored, none of which exists; the text is for the directory. */
    private static OrbitMailbox lastFile() {
        OrbitMailbox m = watched(1);
        for (int f = 0; f < 30; f++) {
            m.store(20, f, 1);
            if (f == 29) {
                m.requestDirectory(0);
            }
            m.run(1);
        }
        m.run(1);
        m.open(0, 29);
        write(m, "d:32;");
        return m;
    }

    private static List<Call> newCalls() {
        List<Call> calls = new ArrayList<>(wrongArguments(0, 0));
        calls.add(call("fileByte", BAD, m -> m.fileByte(0, 0)));
        calls.add(call("withdraw", BAD, m -> m.withdraw(0)));
        calls.add(call("queued", NONE, m -> m.queued(0, 0)));
        calls.add(call("lastFrame", NONE, m -> m.lastFrame(0)));
        return calls;
    }

    private static List<Call> busyCalls() {
        List<Call> calls = new ArrayList<>(wrongArguments(4, 3));
        calls.add(call("store at the same time", IMPOSSIBLE, m -> m.store(10, 0, 10)));
        calls.add(call("fileByte too far", NONE, m -> m.fileByte(0, 100)));
        calls.add(call("covered too far", NONE, m -> m.covered(0, 24)));
        calls.add(call("timeHole too far", NONE, m -> m.timeHole(0, 26)));
        calls.add(call("open an unknown one", IMPOSSIBLE, m -> m.open(0, 2)));
        calls.add(call("open an open one", IMPOSSIBLE, m -> m.open(0, 0)));
        calls.add(call("close one that is not open", IMPOSSIBLE, m -> m.close(0, 1)));
        calls.add(call("close at another station", IMPOSSIBLE, m -> m.close(3, 0)));
        calls.add(call("receivedBytes", IMPOSSIBLE, m -> m.receivedBytes(0, 1)));
        calls.add(call("receivedByte, not open", IMPOSSIBLE, m -> m.receivedByte(0, 1, 0)));
        calls.add(call("receivedByte, not received", NONE, m -> m.receivedByte(0, 0, 35)));
        calls.add(call("byteHole, not open", IMPOSSIBLE, m -> m.byteHole(0, 1, 0)));
        calls.add(call("byteHole too far", NONE, m -> m.byteHole(0, 0, 26)));
        calls.add(call("requestDirectory twice", IMPOSSIBLE, m -> m.requestDirectory(0)));
        calls.add(call("requestDirectory out of view", IMPOSSIBLE, m -> m.requestDirectory(1)));
        calls.add(call("requestFile twice", IMPOSSIBLE, m -> m.requestFile(0, 0)));
        calls.add(call("requestFile, not open", IMPOSSIBLE, m -> m.requestFile(2, 2)));
        calls.add(call("requestFile, gone", IMPOSSIBLE, m -> m.requestFile(2, 1)));
        calls.add(call("withdraw without a request", NONE, m -> m.withdraw(2)));
        calls.add(call("queued too far", NONE, m -> m.queued(2, 0)));
        calls.add(call("requestText with a fault", IMPOSSIBLE, m -> m.requestText(2)));
        calls.add(call("ticksToComplete, not open", IMPOSSIBLE, m -> m.ticksToComplete(0, 1)));
        calls.add(call("ticksToComplete, gone", NONE, m -> m.ticksToComplete(2, 1)));
        return calls;
    }

    private static List<Call> fullCalls() {
        List<Call> calls = new ArrayList<>(wrongArguments(5, 8));
        calls.add(call("a sixth station", FULL, m -> m.addStation(1, 0, 1, 0)));
        calls.add(call("a ninth file", FULL, m -> m.store(10, 0, 10)));
        calls.add(call("a fourth open file", FULL, m -> m.open(0, 3)));
        calls.add(call("a 61st character", FULL, m -> m.type('d')));
        calls.add(call("requestText with a fault", IMPOSSIBLE, m -> m.requestText(0)));
        calls.add(call("requestDirectory twice", IMPOSSIBLE, m -> m.requestDirectory(4)));
        calls.add(call("requestFile of a complete file", IMPOSSIBLE, m -> m.requestFile(0, 0)));
        calls.add(call("queued too far", NONE, m -> m.queued(5, 0)));
        return calls;
    }

    private static List<Call> lastFileCalls() {
        List<Call> calls = new ArrayList<>(wrongArguments(1, 30));
        calls.add(call("a 31st file", FULL, m -> m.store(10, 0, 10)));
        calls.add(call("requestText of a time to come", IMPOSSIBLE, m -> m.requestText(0)));
        calls.add(call("open the first", IMPOSSIBLE, m -> m.open(0, 0)));
        calls.add(call("requestFile of a file that is gone", IMPOSSIBLE, m -> m.requestFile(0, 29)));
        calls.add(call("withdraw", NONE, m -> m.withdraw(0)));
        calls.add(call("lastFrame of an idle one", NONE, m -> m.lastFrame(2)));
        calls.add(call("ticksToComplete of a file that is gone", NONE, m -> m.ticksToComplete(0, 29)));
        return calls;
    }

    /** Each argument just out of its range, of an object with so many stations and files. */
    private static List<Call> wrongArguments(int stations, int files) {
        List<Call> calls = new ArrayList<>();
        wrongOfNoStation(calls);
        int[] noStations = {-1, stations, HUGE};
        for (int s : noStations) {
            wrongStation(calls, s);
        }
        int[] noFiles = {-1, files, HUGE};
        for (int f : noFiles) {
            wrongFile(calls, f);
        }
        if (stations > 0 && files > 0) {
            wrongIndices(calls);
        }
        return calls;
    }

    private static void wrongOfNoStation(List<Call> calls) {
        int[][] stations = {{0, 0, 1, 0}, {1001, 0, 1, 0}, {5, -1, 1, 0}, {5, 1001, 1, 0},
            {5, 0, 0, 0}, {5, 0, 6, 0}, {5, 0, 1, -1}, {5, 0, 1, 3}};
        for (int[] a : stations) {
            calls.add(call("addStation", BAD, m -> m.addStation(a[0], a[1], a[2], a[3])));
        }
        int[][] files = {{0, 0, 1}, {321, 0, 1}, {1, -1, 1}, {1, 256, 1}, {1, 0, 0}, {1, 0, 100001}};
        for (int[] a : files) {
            calls.add(call("store", BAD, m -> m.store(a[0], a[1], a[2])));
        }
        calls.add(call("queued place -1", BAD, m -> m.queued(-1, 0)));
        calls.add(call("queued what -1", BAD, m -> m.queued(0, -1)));
        calls.add(call("queued what 6", BAD, m -> m.queued(0, 6)));
        calls.add(call("type 31", BAD, m -> m.type(31)));
        calls.add(call("type 127", BAD, m -> m.type(127)));
        calls.add(call("run 0", BAD, m -> m.run(0)));
        calls.add(call("run 1001", BAD, m -> m.run(1001)));
        calls.add(call("lastFrame -1", BAD, m -> m.lastFrame(-1)));
        calls.add(call("lastFrame 5", BAD, m -> m.lastFrame(5)));
        calls.add(call("total -1", BAD, m -> m.total(-1)));
        calls.add(call("total 5", BAD, m -> m.total(5)));
    }

    private static void wrongStation(List<Call> calls, int s) {
        calls.add(call("setLoss of " + s, BAD, m -> m.setLoss(s, 1)));
        calls.add(call("inView of " + s, BAD, m -> m.inView(s, 0)));
        calls.add(call("nextView of " + s, BAD, m -> m.nextView(s, 0)));
        calls.add(call("receives of " + s, BAD, m -> m.receives(s, 0)));
        calls.add(call("directory of " + s, BAD, m -> m.directory(s)));
        calls.add(call("unknownFiles of " + s, BAD, m -> m.unknownFiles(s)));
        calls.add(call("covered of " + s, BAD, m -> m.covered(s, -1)));
        calls.add(call("timeHole of " + s, BAD, m -> m.timeHole(s, -1)));
        calls.add(call("open of " + s, BAD, m -> m.open(s, 0)));
        calls.add(call("close of " + s, BAD, m -> m.close(s, 0)));
        calls.add(call("receivedBytes of " + s, BAD, m -> m.receivedBytes(s, 0)));
        calls.add(call("receivedByte of " + s, BAD, m -> m.receivedByte(s, 0, 0)));
        calls.add(call("byteHole of " + s, BAD, m -> m.byteHole(s, 0, -1)));
        calls.add(call("completeFiles of " + s, BAD, m -> m.completeFiles(s)));
        calls.add(call("requestDirectory of " + s, BAD, m -> m.requestDirectory(s)));
        calls.add(call("requestFile of " + s, BAD, m -> m.requestFile(s, 0)));
        calls.add(call("withdraw of " + s, BAD, m -> m.withdraw(s)));
        calls.add(call("requestText of " + s, BAD, m -> m.requestText(s)));
        calls.add(call("stationTotal of " + s, BAD, m -> m.stationTotal(s, 0)));
        calls.add(call("ticksToComplete of " + s, BAD, m -> m.ticksToComplete(s, 0)));
    }

    private static void wrongFile(List<Call> calls, int f) {
        calls.add(call("fileInfo of file " + f, BAD, m -> m.fileInfo(f, 0)));
        calls.add(call("fileByte of file " + f, BAD, m -> m.fileByte(f, 0)));
        calls.add(call("open of file " + f, BAD, m -> m.open(0, f)));
        calls.add(call("close of file " + f, BAD, m -> m.close(0, f)));
        calls.add(call("receivedBytes of file " + f, BAD, m -> m.receivedBytes(0, f)));
        calls.add(call("receivedByte of file " + f, BAD, m -> m.receivedByte(0, f, 0)));
        calls.add(call("byteHole of file " + f, BAD, m -> m.byteHole(0, f, -1)));
        calls.add(call("requestFile of file " + f, BAD, m -> m.requestFile(0, f)));
        calls.add(call("ticksToComplete of file " + f, BAD, m -> m.ticksToComplete(0, f)));
    }

    private static void wrongIndices(List<Call> calls) {
        calls.add(call("setLoss -1", BAD, m -> m.setLoss(0, -1)));
        calls.add(call("setLoss 1001", BAD, m -> m.setLoss(0, 1001)));
        calls.add(call("inView at -1", BAD, m -> m.inView(0, -1)));
        calls.add(call("inView at 1000001", BAD, m -> m.inView(0, 1000001)));
        calls.add(call("nextView at -1", BAD, m -> m.nextView(0, -1)));
        calls.add(call("nextView at 1000001", BAD, m -> m.nextView(0, 1000001)));
        calls.add(call("receives at -1", BAD, m -> m.receives(0, -1)));
        calls.add(call("receives at 1000001", BAD, m -> m.receives(0, 1000001)));
        calls.add(call("fileInfo -1", BAD, m -> m.fileInfo(0, -1)));
        calls.add(call("fileInfo 4", BAD, m -> m.fileInfo(0, 4)));
        calls.add(call("fileByte -1", BAD, m -> m.fileByte(0, -1)));
        calls.add(call("covered -2", BAD, m -> m.covered(0, -2)));
        calls.add(call("timeHole -2", BAD, m -> m.timeHole(0, -2)));
        calls.add(call("receivedByte -1", BAD, m -> m.receivedByte(0, 0, -1)));
        calls.add(call("byteHole -2", BAD, m -> m.byteHole(0, 0, -2)));
        calls.add(call("stationTotal -1", BAD, m -> m.stationTotal(0, -1)));
        calls.add(call("stationTotal 4", BAD, m -> m.stationTotal(0, 4)));
    }

    /** The calls that change nothing, whatever they answer. */
    private static List<Call> questions() {
        List<Call> calls = new ArrayList<>();
        calls.add(call("inView", ANY, m -> m.inView(0, 5)));
        calls.add(call("nextView", ANY, m -> m.nextView(1, 5)));
        calls.add(call("receives", ANY, m -> m.receives(2, 5)));
        calls.add(call("fileInfo", ANY, m -> m.fileInfo(0, 3)));
        calls.add(call("fileByte", ANY, m -> m.fileByte(0, 3)));
        calls.add(call("fileCount", ANY, OrbitMailbox::fileCount));
        calls.add(call("existingCount", ANY, OrbitMailbox::existingCount));
        calls.add(call("directory", ANY, m -> m.directory(0)));
        calls.add(call("unknownFiles", ANY, m -> m.unknownFiles(0)));
        calls.add(call("covered", ANY, m -> m.covered(0, 1)));
        calls.add(call("timeHole", ANY, m -> m.timeHole(0, 1)));
        calls.add(call("receivedBytes", ANY, m -> m.receivedBytes(0, 0)));
        calls.add(call("receivedByte", ANY, m -> m.receivedByte(0, 0, 5)));
        calls.add(call("byteHole", ANY, m -> m.byteHole(0, 0, 1)));
        calls.add(call("completeFiles", ANY, m -> m.completeFiles(0)));
        calls.add(call("queueLength", ANY, OrbitMailbox::queueLength));
        calls.add(call("queued", ANY, m -> m.queued(0, 4)));
        calls.add(call("fault", ANY, OrbitMailbox::fault));
        calls.add(call("time", ANY, OrbitMailbox::time));
        calls.add(call("lastFrame", ANY, m -> m.lastFrame(4)));
        calls.add(call("total", ANY, m -> m.total(0)));
        calls.add(call("stationTotal", ANY, m -> m.stationTotal(0, 0)));
        calls.add(call("ticksToComplete", ANY, m -> m.ticksToComplete(0, 0)));
        calls.add(call("ticksToComplete of another", ANY, m -> m.ticksToComplete(0, 1)));
        calls.add(call("ticksToEmpty", ANY, OrbitMailbox::ticksToEmpty));
        return calls;
    }
}
