/** The five examples behind the document's section "Errors". */
public final class ExamplesTest {
    private static final Check check = new Check("ExamplesTest");

    public static void main(String[] args) {
        entryIsSent();
        directoryRequestOfTwoFrames();
        stationWithPasses();
        holeThatEndsBeforeItBegins();
        errors();
        check.end();
    }

    private static void entryIsSent() {
        OrbitMailbox m = new OrbitMailbox();
        check.due("1 addStation", m.addStation(1, 0, 1, 0), 0);
        check.due("1 store", m.store(20, 5, 100), 0);
        check.due("1 run(2)", m.run(2), 2);
        check.due("1 requestDirectory", m.requestDirectory(0), 1);
        check.due("1 run(1)", m.run(1), 3);
        check.due("1 lastFrame(0)", m.lastFrame(0), 2);
        check.due("1 lastFrame(1)", m.lastFrame(1), 0);
        check.due("1 covered(0, 1)", m.covered(0, 1), 0);
        check.due("1 directory", m.directory(0), 1);
    }

    private static void directoryRequestOfTwoFrames() {
        OrbitMailbox m = new OrbitMailbox();
        check.due("2 addStation", m.addStation(1, 0, 1, 1), 0);
        check.due("2 store", m.store(20, 5, 100), 0);
        check.due("2 run(1)", m.run(1), 1);
        check.due("2 requestDirectory", m.requestDirectory(0), 1);
        check.due("2 run(1) again", m.run(1), 2);
        check.due("2 open", m.open(0, 0), 1);
        check.due("2 requestFile", m.requestFile(0, 0), -2);
        check.due("2 third run(1)", m.run(1), 3);
        check.due("2 lastFrame(3)", m.lastFrame(3), 1);
        check.due("2 receivedBytes", m.receivedBytes(0, 0), 0);
        check.due("2 queued(0, 5)", m.queued(0, 5), -4);
        check.due("2 ticksToComplete", m.ticksToComplete(0, 0), 2);
    }

    private static void stationWithPasses() {
        OrbitMailbox m = new OrbitMailbox();
        check.due("3 addStation", m.addStation(10, 0, 3, 0), 0);
        check.due("3 store", m.store(300, 1, 1000), 0);
        check.due("3 run(1)", m.run(1), 1);
        check.due("3 requestDirectory", m.requestDirectory(0), 1);
        check.due("3 run(1) again", m.run(1), 2);
        check.due("3 open", m.open(0, 0), 1);
        check.due("3 requestFile", m.requestFile(0, 0), -2);
        check.due("3 run(5)", m.run(5), 7);
        check.due("3 total(4)", m.total(4), 0);
        check.due("3 byteHole", m.byteHole(0, 0, 0), 0);
        check.due("3 nextView", m.nextView(0, 7), 10);
    }

    private static void holeThatEndsBeforeItBegins() {
        OrbitMailbox m = new OrbitMailbox();
        check.due("4 type(100)", m.type(100), 1);
        check.due("4 type(58)", m.type(58), 2);
        check.due("4 type(53)", m.type(53), 3);
        check.due("4 type(45)", m.type(45), 4);
        check.due("4 type(51)", m.type(51), 5);
        check.due("4 fault", m.fault(), 4);
    }

    private static void errors() {
        OrbitMailbox m = new OrbitMailbox();
        check.due("5 addStation(5, 0, 6, 0)", m.addStation(5, 0, 6, 0), -1);
        check.due("5 addStation(5, 0, 5, 0)", m.addStation(5, 0, 5, 0), 0);
        check.due("5 store", m.store(1, 0, 1), 0);
        check.due("5 store again", m.store(1, 0, 1), -2);
        check.due("5 run(1)", m.run(1), 1);
        check.due("5 existingCount", m.existingCount(), 0);
        check.due("5 requestFile", m.requestFile(0, 0), -2);
    }
}
