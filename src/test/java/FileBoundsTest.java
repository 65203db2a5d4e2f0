/** The boundary cases of promises 7 to 11, and of the terms "Files". */
public final class FileBoundsTest extends MailboxStates {
    private static final Check check = new Check("FileBoundsTest");

    public static void main(String[] args) {
        length();
        seed();
        lifetime();
        longestLife();
        oneAtATime();
        eightExist();
        eighthEnds();
        thirtyInAll();
        errorsInOrder();
        fileInfoArguments();
        fileInfoExists();
        fileByteIndex();
        fileByteValues();
        counts();
        check.end();
    }

    private static void due(String what, int got, int want) {
        check.due(what, got, want);
    }

    private static void length() {
        check.of("Promise 7: length: 1 to 320");
        OrbitMailbox m = new OrbitMailbox();
        due("0", m.store(0, 0, 1), BAD);
        due("-1", m.store(-1, 0, 1), BAD);
        due("321", m.store(321, 0, 1), BAD);
        due("the least int", m.store(TINY, 0, 1), BAD);
        due("the greatest int", m.store(HUGE, 0, 1), BAD);
        due("1", m.store(1, 0, 1), 0);
        m.run(1);
        due("320", m.store(320, 0, 1), 1);
        due("the length 1", m.fileInfo(0, 0), 1);
        due("the length 320", m.fileInfo(1, 0), 320);
    }

    private static void seed() {
        check.of("Promise 7: seed: 0 to 255");
        OrbitMailbox m = new OrbitMailbox();
        due("-1", m.store(1, -1, 1), BAD);
        due("256", m.store(1, 256, 1), BAD);
        due("the least int", m.store(1, TINY, 1), BAD);
        due("the greatest int", m.store(1, HUGE, 1), BAD);
        due("0", m.store(1, 0, 1), 0);
        m.run(1);
        due("255", m.store(1, 255, 1), 1);
        due("the seed 0", m.fileByte(0, 0), 0);
        due("the seed 255", m.fileByte(1, 0), 255);
    }

    private static void lifetime() {
        check.of("Promise 7: lifetime: 1 to 100000");
        OrbitMailbox m = new OrbitMailbox();
        due("0", m.store(1, 0, 0), BAD);
        due("-1", m.store(1, 0, -1), BAD);
        due("100001", m.store(1, 0, 100001), BAD);
        due("the least int", m.store(1, 0, TINY), BAD);
        due("the greatest int", m.store(1, 0, HUGE), BAD);
        due("1", m.store(1, 0, 1), 0);
        due("1 exists now", m.fileInfo(0, 3), 1);
        m.run(1);
        due("1 is gone then", m.fileInfo(0, 3), 0);
        due("100000", m.store(1, 0, 100000), 1);
        due("the lifetime 1", m.fileInfo(0, 2), 1);
        due("the lifetime 100000", m.fileInfo(1, 2), 100000);
    }

    private static void longestLife() {
        check.of("Promise 7: a file exists as long as the time is less than s + lifetime");
        OrbitMailbox m = new OrbitMailbox();
        pass(m, 7);
        m.store(1, 0, 100000);
        pass(m, 99999);
        due("its last time", m.time(), 100006);
        due("it exists there", m.fileInfo(0, 3), 1);
        due("it is counted there", m.existingCount(), 1);
        m.run(1);
        due("it is gone at s + lifetime", m.fileInfo(0, 3), 0);
        due("it is counted no more", m.existingCount(), 0);
        due("a new one can be stored", m.store(1, 0, 1), 1);
    }

    private static void oneAtATime() {
        check.of("Promise 7: NOT_POSSIBLE if a file has been stored at this time already");
        OrbitMailbox m = new OrbitMailbox();
        due("a refused one", m.store(321, 0, 1), BAD);
        due("does not take the time", m.store(1, 0, 1), 0);
        due("a second", m.store(1, 0, 1), IMPOSSIBLE);
        due("a third", m.store(1, 0, 1), IMPOSSIBLE);
        due("fileCount", m.fileCount(), 1);
        m.run(1);
        due("at the next time", m.store(1, 0, 1), 1);
        due("a second there", m.store(1, 0, 1), IMPOSSIBLE);
        m.run(1000);
        due("much later", m.store(1, 0, 1), 2);
        due("its time", m.fileInfo(2, 1), 1001);
    }

    /** Eight files, stored at 0 to 7, the first of which ends at the given time; at time 8. */
    private static OrbitMailbox eight(int end) {
        OrbitMailbox m = new OrbitMailbox();
        for (int f = 0; f < 8; f++) {
            due("file " + f, m.store(1, 0, f == 0 ? end : 1000), f);
            m.run(1);
        }
        return m;
    }

    private static void eightExist() {
        check.of("Promise 7: CAPACITY_EXCEEDED if 8 files exist");
        OrbitMailbox m = eight(1000);
        due("existingCount", m.existingCount(), 8);
        due("a ninth", m.store(1, 0, 1), FULL);
        due("a ninth again, for a refused one does not take the time", m.store(1, 0, 1), FULL);
        due("fileCount", m.fileCount(), 8);
        due("there is no file 8", m.fileInfo(8, 0), BAD);
    }

    private static void eighthEnds() {
        check.of("Promise 7: 8 files exist until one of them ends");
        OrbitMailbox m = eight(9);
        due("at its last time", m.store(1, 0, 1), FULL);
        m.run(1);
        due("when it has ended", m.store(1, 0, 1), 8);
        due("existingCount", m.existingCount(), 8);
        m.run(1);
        due("in place of that one", m.store(1, 0, 100), 9);
        m.run(1);
        due("then it is full again", m.store(1, 0, 1), FULL);
    }

    private static void thirtyInAll() {
        check.of("Promise 7: CAPACITY_EXCEEDED if 30 files have been stored in all");
        OrbitMailbox m = new OrbitMailbox();
        for (int f = 0; f < 30; f++) {
            due("file " + f, m.store(1 + f, f, 1), f);
            m.run(1);
        }
        due("none exists", m.existingCount(), 0);
        due("the 31st", m.store(1, 0, 1), FULL);
        due("the 31st again", m.store(1, 0, 1), FULL);
        due("fileCount", m.fileCount(), 30);
        due("the first stays", m.fileInfo(0, 0), 1);
        due("the last stays", m.fileInfo(29, 0), 30);
        due("its time", m.fileInfo(29, 1), 29);
        due("its byte", m.fileByte(29, 0), 29);
        due("there is no file 30", m.fileInfo(30, 0), BAD);
        due("nor its byte", m.fileByte(30, 0), BAD);
    }

    private static void errorsInOrder() {
        check.of("Errors: INVALID_ARGUMENT, NOT_POSSIBLE, CAPACITY_EXCEEDED in this order (promise 7)");
        OrbitMailbox m = new OrbitMailbox();
        m.store(1, 0, 1);
        due("invalid and at the same time", m.store(0, 0, 1), BAD);
        OrbitMailbox full = new OrbitMailbox();
        for (int f = 0; f < 8; f++) {
            full.run(1);
            full.store(1, 0, 100);
        }
        due("at the same time and 8 exist", full.store(1, 0, 1), IMPOSSIBLE);
        due("all three", full.store(1, 256, 1), BAD);
        full.run(1);
        due("invalid and 8 exist", full.store(1, 0, 0), BAD);
        due("8 exist alone", full.store(1, 0, 1), FULL);
        OrbitMailbox last = new OrbitMailbox();
        for (int f = 0; f < 30; f++) {
            last.run(1);
            last.store(1, 0, 1);
        }
        due("at the same time and 30 stored", last.store(1, 0, 1), IMPOSSIBLE);
        last.run(1);
        due("invalid and 30 stored", last.store(1, -1, 1), BAD);
        due("30 stored alone", last.store(1, 0, 1), FULL);
    }

    private static void fileInfoArguments() {
        check.of("Promise 8: file: number of a file that has been stored; what: 0 to 3");
        OrbitMailbox m = new OrbitMailbox();
        m.run(3);
        m.store(77, 9, 4);
        m.run(1);
        m.store(78, 9, 5);
        int[] wrong = {-1, 2, 29, 30, HUGE, TINY};
        for (int f : wrong) {
            due("file " + f, m.fileInfo(f, 0), BAD);
        }
        due("the first file", m.fileInfo(0, 0), 77);
        due("the last file", m.fileInfo(1, 0), 78);
        due("what -1", m.fileInfo(0, -1), BAD);
        due("what 4", m.fileInfo(0, 4), BAD);
        due("what the least int", m.fileInfo(0, TINY), BAD);
        due("what the greatest int", m.fileInfo(0, HUGE), BAD);
        due("what 1", m.fileInfo(1, 1), 4);
        due("what 2", m.fileInfo(1, 2), 5);
        due("what 3", m.fileInfo(1, 3), 1);
    }

    private static void fileInfoExists() {
        check.of("Promise 8: 3: 1 if it exists, else 0");
        OrbitMailbox m = new OrbitMailbox();
        m.run(3);
        m.store(77, 9, 4);
        for (int t = 3; t < 10; t++) {
            due("at " + t, m.fileInfo(0, 3), t < 7 ? 1 : 0);
            m.run(1);
        }
        due("the length stays", m.fileInfo(0, 0), 77);
        due("the time stays", m.fileInfo(0, 1), 3);
        due("the lifetime stays", m.fileInfo(0, 2), 4);
    }

    private static void fileByteIndex() {
        check.of("Promise 9: index: 0 or more; NOT_FOUND if the file is not so long");
        OrbitMailbox m = new OrbitMailbox();
        m.store(320, 5, 1);
        m.run(1);
        m.store(1, 6, 1);
        due("-1", m.fileByte(0, -1), BAD);
        due("the least int", m.fileByte(0, TINY), BAD);
        due("0", m.fileByte(0, 0), 5);
        due("319 of 320, of a file that is gone", m.fileByte(0, 319), 111);
        due("320 of 320", m.fileByte(0, 320), NONE);
        due("the greatest int", m.fileByte(0, HUGE), NONE);
        due("0 of 1", m.fileByte(1, 0), 6);
        due("1 of 1", m.fileByte(1, 1), NONE);
        check.of("Promise 9: INVALID_ARGUMENT if there is no such file");
        int[] wrong = {-1, 2, 30, HUGE, TINY};
        for (int f : wrong) {
            due("file " + f, m.fileByte(f, 0), BAD);
            due("file " + f + " rather than not so long", m.fileByte(f, 320), BAD);
        }
    }

    private static void fileByteValues() {
        check.of("Promise 9: byte k is (seed + 31 * k + k * k / 7) modulo 256");
        OrbitMailbox m = new OrbitMailbox();
        m.store(320, 0, 1);
        m.run(1);
        m.store(320, 255, 1);
        int[] low = {0, 31, 62, 94, 126, 158, 191, 224, 1, 34, 68, 102};
        for (int k = 0; k < low.length; k++) {
            due("seed 0, byte " + k, m.fileByte(0, k), low[k]);
            due("seed 255, byte " + k, m.fileByte(1, k), (low[k] + 255) % 256);
        }
        due("seed 0, byte 319", m.fileByte(0, 319), 106);
        due("seed 255, byte 319", m.fileByte(1, 319), 105);
        OrbitMailbox all = new OrbitMailbox();
        all.store(320, 255, 1);
        boolean inRange = true;
        for (int k = 0; k < 320; k++) {
            int value = all.fileByte(0, k);
            inRange &= value >= 0 && value <= 255;
        }
        check.holds("0 to 255", inRange);
    }

    private static void counts() {
        check.of("Promises 10 and 11: none, then one that ends, then as many as can be");
        OrbitMailbox m = new OrbitMailbox();
        due("fileCount of none", m.fileCount(), 0);
        due("existingCount of none", m.existingCount(), 0);
        m.store(1, 0, 2);
        due("fileCount of one", m.fileCount(), 1);
        due("existingCount of one", m.existingCount(), 1);
        m.run(1);
        due("existingCount at its last time", m.existingCount(), 1);
        m.run(1);
        due("existingCount when it is gone", m.existingCount(), 0);
        due("fileCount when it is gone", m.fileCount(), 1);
        for (int f = 1; f < 30; f++) {
            m.store(1, 0, 8);
            due("fileCount", m.fileCount(), f + 1);
            due("existingCount", m.existingCount(), Math.min(f, 8));
            m.run(1);
        }
        due("fileCount of all", m.fileCount(), 30);
    }
}
