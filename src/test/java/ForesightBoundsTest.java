/** The boundary cases of promises 36 and 37: what would come. */
public final class ForesightBoundsTest extends MailboxStates {
    private static final Check check = new Check("ForesightBoundsTest");

    public static void main(String[] args) {
        arguments();
        errorsInOrder();
        completeAlready();
        fewestTicks();
        twoThousand();
        beforeTheFileEnds();
        passes();
        turns();
        losses();
        ownRequests();
        requestsAgainAndAgain();
        othersDoNothing();
        changesNothing();
        comesTrue();
        emptyQueue();
        emptyByDone();
        emptyByDropped();
        emptyWithTurns();
        check.end();
    }

    private static void due(String what, int got, int want) {
        check.due(what, got, want);
    }

    private static void arguments() {
        check.of("Promise 36: station: number of a station; file: number of a file that has been stored");
        OrbitMailbox m = opened(20, 1000);
        int[] wrong = {-1, 1, 5, 30, HUGE, TINY};
        for (int number : wrong) {
            due("station " + number, m.ticksToComplete(number, 0), BAD);
            due("file " + number, m.ticksToComplete(0, number), BAD);
        }
        due("station 0, file 0", m.ticksToComplete(0, 0), 2);
        check.of("Promise 36: NOT_POSSIBLE if the file is not open");
        m.store(20, 0, 1000);
        due("never opened", m.ticksToComplete(0, 1), IMPOSSIBLE);
        m.close(0, 0);
        due("closed", m.ticksToComplete(0, 0), IMPOSSIBLE);
    }

    private static void errorsInOrder() {
        check.of("Errors: INVALID_ARGUMENT, NOT_POSSIBLE, NOT_FOUND in this order (promise 36)");
        OrbitMailbox m = opened(320, 4);
        m.run(2);
        due("open and gone", m.ticksToComplete(0, 0), NONE);
        due("no station, and gone", m.ticksToComplete(1, 0), BAD);
        due("no file", m.ticksToComplete(0, 1), BAD);
        m.close(0, 0);
        due("not open, and gone", m.ticksToComplete(0, 0), IMPOSSIBLE);
        due("no station, not open, and gone", m.ticksToComplete(1, 0), BAD);
    }

    private static void completeAlready() {
        check.of("Promise 36: 0 if it is complete now");
        OrbitMailbox m = opened(16, 5);
        fetch(m, 0, "f0:0-14;");
        due("but for a byte", m.ticksToComplete(0, 0), 1);
        fetch(m, 0, "f0:15;");
        due("complete", m.ticksToComplete(0, 0), 0);
        m.run(1);
        due("complete and gone", m.ticksToComplete(0, 0), 0);
        m.setLoss(0, 1000);
        due("complete with nothing but loss", m.ticksToComplete(0, 0), 0);
        m.close(0, 0);
        m.open(0, 0);
        due("opened again, and gone", m.ticksToComplete(0, 0), NONE);
    }

    private static void fewestTicks() {
        check.of("Promise 36: the least number of ticks after which it is complete");
        int[][] lengths = {{1, 1}, {15, 1}, {16, 1}, {17, 2}, {32, 2}, {33, 3}, {319, 20}, {320, 20}};
        for (int[] l : lengths) {
            due("of " + l[0] + " bytes", opened(l[0], 1000).ticksToComplete(0, 0), l[1]);
        }
    }

    /** A station in view for a tick of every 1000, at time 1 with an open file. */
    private static OrbitMailbox seldom(int length) {
        OrbitMailbox m = new OrbitMailbox();
        m.addStation(1000, 0, 1, 0);
        m.store(length, 0, 100000);
        m.requestDirectory(0);
        m.run(1);
        m.open(0, 0);
        return m;
    }

    private static void twoThousand() {
        check.of("Promise 36: 0 to 2000; NOT_FOUND if it is not complete after 2000 ticks");
        due("at the pass of 1000", seldom(16).ticksToComplete(0, 0), 1000);
        due("at the pass of 2000", seldom(32).ticksToComplete(0, 0), 2000);
        due("not at the pass of 3000", seldom(33).ticksToComplete(0, 0), NONE);
        OrbitMailbox m = seldom(48);
        m.run(998);
        due("from 999, 2002 ticks", m.ticksToComplete(0, 0), NONE);
        m.run(1);
        due("from 1000, 2001 ticks", m.ticksToComplete(0, 0), NONE);
        m.requestFile(0, 0);
        due("from 1000, with the request", m.ticksToComplete(0, 0), NONE);
        m.run(1);
        due("from 1001, 2000 ticks", m.ticksToComplete(0, 0), 2000);
        m.run(1);
        due("from 1002, 1999 ticks", m.ticksToComplete(0, 0), 1999);
    }

    private static void beforeTheFileEnds() {
        check.of("Promise 36: it requests the file as long as this exists");
        // At time 2, so a file with lifetime 2 + n can be sent n times.
        for (int n = 1; n <= 3; n++) {
            due("its last frame at its last time", opened(16 * n, 2 + n).ticksToComplete(0, 0), n);
            due("one frame more", opened(16 * n + 1, 2 + n).ticksToComplete(0, 0), NONE);
        }
        due("gone now", opened(1, 2).ticksToComplete(0, 0), NONE);
    }

    private static void passes() {
        check.of("Promise 36: it requests the file at ticks at which it is in view");
        OrbitMailbox m = new OrbitMailbox();
        m.addStation(10, 0, 3, 0);
        m.store(80, 0, 1000);
        m.requestDirectory(0);
        m.run(1);
        m.open(0, 0);
        // Ticks at 1, 2, 10, 11, 12
        due("two, then three frames", m.ticksToComplete(0, 0), 12);
        m.run(2);
        due("from behind the pass, all five to come", m.ticksToComplete(0, 0), 19);
        m.run(6);
        due("from just before the next", m.ticksToComplete(0, 0), 13);
        m.requestFile(0, 0);
        due("nothing was asked for", m.queueLength(), 0);
        m.run(1);
        due("from its beginning", m.ticksToComplete(0, 0), 12);
        check.of("Promises 36 and 37: passes in the simulation begin at the offset");
        OrbitMailbox late = new OrbitMailbox();
        late.addStation(10, 4, 3, 0);
        late.store(32, 0, 1000);
        late.run(4);
        late.requestDirectory(0);
        late.run(2);
        late.open(0, 0);
        due("at the last time of a pass and the first of the next", late.ticksToComplete(0, 0), 9);
        late.requestFile(0, 0);
        due("sent once, then dropped", late.ticksToEmpty(), 2);
    }

    private static void turns() {
        check.of("Promise 36: a turn that has begun goes on in the simulation");
        OrbitMailbox m = opened(16, 1000);
        m.addStation(1, 0, 1, 2);
        m.store(320, 0, 1000);
        ask(m, 1, "f1:0-319;");
        int[] ticks = {4, 3, 2, 4, 3};
        for (int i = 0; i < ticks.length; i++) {
            due("after " + i + " frames of another's turns of three", m.ticksToComplete(0, 0), ticks[i]);
            m.run(1);
        }
        m.requestFile(0, 0);
        m.run(1);
        due("the last frame of the turn", m.completeFiles(0), 0);
        due("is before it", m.ticksToComplete(0, 0), 1);
        check.of("Promise 36: a request for the directory is sent before it in the simulation");
        OrbitMailbox d = opened(16, 1000);
        d.addStation(1, 0, 1, 0);
        d.requestFile(0, 0);
        ask(d, 1, "d:0-1;");
        due("two entries first", d.ticksToComplete(0, 0), 3);
    }

    private static void losses() {
        check.of("Promise 36: losses hit in the simulation as they do really");
        OrbitMailbox m = opened(16, 1000);
        // The values at the times 2 to 7: 533, 670, 735, 728, 128, 977
        int[][] rates = {{533, 1}, {534, 2}, {670, 2}, {671, 3}, {735, 3}, {736, 6}, {977, 6}};
        for (int[] rate : rates) {
            m.setLoss(0, rate[0]);
            due("rate " + rate[0], m.ticksToComplete(0, 0), rate[1]);
        }
        m.setLoss(0, 1000);
        due("rate 1000", m.ticksToComplete(0, 0), NONE);
    }

    private static void ownRequests() {
        check.of("Promise 36: it puts a request when it has none in the queue");
        OrbitMailbox m = opened(320, 1000);
        m.requestDirectory(0);
        due("behind its own for the directory", m.ticksToComplete(0, 0), 21);
        m.withdraw(0);
        ask(m, 0, "f0:0-15;");
        due("behind a part of the file", m.ticksToComplete(0, 0), 20);
        m.withdraw(0);
        m.requestFile(0, 0);
        due("with its own for the file", m.ticksToComplete(0, 0), 20);
        m.run(7);
        due("when some of it has come", m.ticksToComplete(0, 0), 13);
        m.withdraw(0);
        m.close(0, 0);
        m.open(0, 0);
        ask(m, 0, "f0:319;");
        due("behind its last byte, which is not sent again", m.ticksToComplete(0, 0), 21);
        check.of("Promise 36: what it takes from other requests counts");
        OrbitMailbox two = opened(16, 1000);
        two.addStation(1, 0, 1, 0);
        ask(two, 1, "f0:0-15;");
        due("another's frame completes it", two.ticksToComplete(0, 0), 1);
        two.close(0, 0);
        due("not open, though another asks", two.ticksToComplete(0, 0), IMPOSSIBLE);
    }

    private static void requestsAgainAndAgain() {
        check.of("Promise 36: each request is of 4 holes at most, and the next one follows it");
        int[] ticks = {20, 21, 22, 23, 24};
        for (int k = 0; k < 5; k++) {
            due("with " + (k + 1) + " holes", oddBytes(k).ticksToComplete(0, 0), ticks[k]);
        }
        due("with thirteen holes", oddBytes(12).ticksToComplete(0, 0), 31);
    }

    private static void othersDoNothing() {
        check.of("Promise 36: all other stations do nothing");
        OrbitMailbox m = crowded(2);
        m.store(32, 0, 1000);
        m.requestDirectory(0);
        m.run(1);
        m.open(0, 0);
        m.open(1, 0);
        due("the other does not ask", m.ticksToComplete(0, 0), 2);
        due("nor does the first for the other", m.ticksToComplete(1, 0), 2);
        m.requestDirectory(1);
        due("but what it has asked for comes before", m.ticksToComplete(0, 0), 3);
        m.run(1);
        due("until it is sent", m.ticksToComplete(0, 0), 2);
        m.requestFile(1, 0);
        m.run(2);
        due("the other one's request completes both", m.ticksToComplete(0, 0), 0);
    }

    private static void changesNothing() {
        check.of("Promises 36 and 37: nothing is changed really");
        check.dueAll("the busy one", MailboxState.of(asked(busy())), MailboxState.of(busy()));
        OrbitMailbox later = busy();
        OrbitMailbox without = busy();
        asked(later).run(5);
        without.run(5);
        check.dueAll("five ticks later", MailboxState.of(later), MailboxState.of(without));
        OrbitMailbox m = seldom(32);
        m.ticksToComplete(0, 0);
        m.ticksToEmpty();
        due("no request is left", m.queueLength(), 0);
        due("no time has passed", m.time(), 1);
        due("no frame was sent", m.lastFrame(0), OrbitMailbox.DIRECTORY);
    }

    /** Three stations, one of them with passes; in the middle of a turn, at time 6. */
    private static OrbitMailbox busy() {
        OrbitMailbox m = watched(2);
        m.addStation(10, 0, 7, 1);
        m.addStation(1, 0, 1, 0);
        m.setLoss(2, 500);
        m.store(320, 0, 40);
        m.run(2);
        m.store(50, 0, 40);
        m.requestDirectory(0);
        m.run(3);
        m.open(0, 0);
        m.open(1, 1);
        ask(m, 0, "f0:3,40-99;");
        ask(m, 1, "f1:0-49;");
        m.requestDirectory(2);
        m.withdraw(2);
        m.run(1);
        return m;
    }

    private static OrbitMailbox asked(OrbitMailbox m) {
        due("a turn has begun", m.queued(0, 5), 2);
        check.holds("it would be complete", m.ticksToComplete(0, 0) > 20);
        check.holds("the other too", m.ticksToComplete(1, 1) > 0);
        check.holds("it would be empty", m.ticksToEmpty() > 0);
        return m;
    }

    private static void comesTrue() {
        check.of("Promise 36: after so many ticks, not before, with the requests made really");
        OrbitMailbox m = busy();
        int ticks = m.ticksToComplete(0, 0);
        for (int i = 0; i < ticks; i++) {
            due("not after " + i, m.completeFiles(0), 0);
            due("so many are left", m.ticksToComplete(0, 0), ticks - i);
            m.requestFile(0, 0);
            m.run(1);
        }
        due("after all of them", m.completeFiles(0), 1);
        check.of("Promise 37: after so many ticks, not before");
        OrbitMailbox n = busy();
        int empty = n.ticksToEmpty();
        for (int i = 0; i < empty; i++) {
            check.holds("not after " + i, n.queueLength() > 0);
            due("so many are left", n.ticksToEmpty(), empty - i);
            n.run(1);
        }
        due("after all of them", n.queueLength(), 0);
    }

    private static void emptyQueue() {
        check.of("Promise 37: 0 if it is empty now");
        due("a new object", new OrbitMailbox().ticksToEmpty(), 0);
        OrbitMailbox m = opened(20, 1000);
        due("after a request was done", m.ticksToEmpty(), 0);
        m.requestFile(0, 0);
        m.withdraw(0);
        due("after one was withdrawn", m.ticksToEmpty(), 0);
    }

    private static void emptyByDone() {
        check.of("Promise 37: the least number of ticks after which the queue is empty");
        OrbitMailbox m = opened(320, 1000);
        String[] texts = {"f0:0;", "f0:0-15;", "f0:0-16;", "f0:0,2,4,6;", "f0:0-319;", "d:0;", "d:0-1;"};
        int[] ticks = {1, 1, 2, 4, 20, 1, 2};
        for (int i = 0; i < texts.length; i++) {
            ask(m, 0, texts[i]);
            due(texts[i], m.ticksToEmpty(), ticks[i]);
            m.withdraw(0);
        }
        OrbitMailbox full = crowded(5);
        for (int f = 0; f < 8; f++) {
            full.store(320, 0, 1000);
            full.run(1);
        }
        for (int s = 0; s < 5; s++) {
            full.requestDirectory(s);
        }
        due("five requests of nine entries", full.ticksToEmpty(), 45);
        for (int s = 0; s < 5; s++) {
            full.withdraw(s);
            ask(full, s, "f" + s + ":0-0,2-2,4-50,60-319;");
        }
        due("five requests of twenty-two frames", full.ticksToEmpty(), 110);
    }

    private static void emptyByDropped() {
        check.of("Promise 37: what is dropped is not in the queue either");
        OrbitMailbox m = new OrbitMailbox();
        m.addStation(10, 0, 3, 0);
        m.store(320, 0, 1000);
        ask(m, 0, "f0:0-319;");
        due("three frames and the tick that drops it", m.ticksToEmpty(), 4);
        m.run(3);
        due("that tick", m.ticksToEmpty(), 1);
        m.run(1);
        due("behind it", m.ticksToEmpty(), 0);
        OrbitMailbox gone = opened(320, 5);
        gone.requestFile(0, 0);
        due("until the file ends", gone.ticksToEmpty(), 4);
        OrbitMailbox done = opened(48, 5);
        done.requestFile(0, 0);
        due("done at the file's last time", done.ticksToEmpty(), 3);
    }

    private static void emptyWithTurns() {
        check.of("Promise 37: turns may let a request be dropped or not");
        // Station 0 is in view until 3 and wants three frames.
        // {its priority, the last byte that the other one wants, dropped}
        int[][] cases = {{0, 163, 1}, {1, 147, 0}, {2, 147, 0}};
        for (int[] c : cases) {
            OrbitMailbox m = new OrbitMailbox();
            m.addStation(100, 0, 4, c[0]);
            m.addStation(1, 0, 1, 0);
            m.store(320, 0, 1000);
            ask(m, 0, "f0:0-47;");
            ask(m, 1, "f0:100-" + c[1] + ";");
            due("ticks", m.ticksToEmpty(), 6);
            m.run(6);
            due("dropped", m.total(4), c[2]);
            due("done", m.total(3), 2 - c[2]);
        }
    }
}
