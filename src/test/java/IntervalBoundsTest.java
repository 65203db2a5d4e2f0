/** The boundary cases of the terms "Intervals", as promises 14, 15, 18 and 20 show them. */
public final class IntervalBoundsTest extends MailboxStates {
    private static final Check check = new Check("IntervalBoundsTest");

    public static void main(String[] args) {
        singleInteger();
        touching();
        apart();
        overlapping();
        bridging();
        emptyAndWhole();
        twelveOfBytes();
        thirteenthOfBytes();
        fullListMerges();
        twelveOfTimes();
        thirteenthOfTimes();
        fullListOfTimesMerges();
        timesTouching();
        check.end();
    }

    /** The holes that are left of 30 bytes after these have been received, text by text. */
    private static void holes(String what, String[] texts, int... want) {
        OrbitMailbox m = opened(30, 1000);
        int missing = 0;
        for (String text : texts) {
            fetch(m, 0, "f0:" + text + ";");
        }
        check.dueAll(what, byteHoles(m, 0, 0), want);
        for (int i = 0; i < want.length; i += 2) {
            missing += want[i + 1] - want[i] + 1;
        }
        check.due(what + ", receivedBytes", m.receivedBytes(0, 0), 30 - missing);
    }

    private static String[] texts(String... texts) {
        return texts;
    }

    private static void singleInteger() {
        check.of("Promise 20, intervals: [a, b] contains the integers from a to b, a at most b");
        holes("one integer", texts("5"), 0, 4, 6, 29);
        holes("one integer as two numbers", texts("5-5"), 0, 4, 6, 29);
        holes("two integers", texts("5-6"), 0, 4, 7, 29);
        holes("the first integer", texts("0"), 1, 29);
        holes("the last integer", texts("29"), 0, 28);
    }

    private static void touching() {
        check.of("Promise 20, intervals: no two touch, such as [0, 4] and [5, 9]");
        holes("behind", texts("0-4", "5-9"), 10, 29);
        holes("before", texts("5-9", "0-4"), 10, 29);
        holes("behind, single", texts("5", "6"), 0, 4, 7, 29);
        holes("before, single", texts("6", "5"), 0, 4, 7, 29);
        holes("behind the last one", texts("1,3,5", "6"), 0, 0, 2, 2, 4, 4, 7, 29);
        holes("before the first one", texts("2,4,6", "1"), 0, 0, 3, 3, 5, 5, 7, 29);
        // Touching ones are merged, so 12 intervals are 24 integers with room for a 12th.
        OrbitMailbox m = opened(60, 1000);
        for (int a = 0; a < 44; a += 4) {
            fetch(m, 0, "f0:" + a + ";");
            fetch(m, 0, "f0:" + (a + 1) + ";");
        }
        check.due("eleven of two integers", m.receivedBytes(0, 0), 22);
        fetch(m, 0, "f0:50;");
        check.due("there is room for a twelfth", m.receivedBytes(0, 0), 23);
    }

    private static void apart() {
        check.of("Promise 20, intervals: those with an integer between them stay apart");
        holes("behind", texts("0-4", "6-9"), 5, 5, 10, 29);
        holes("before", texts("6-9", "0-4"), 5, 5, 10, 29);
        holes("between", texts("0-4", "10-14", "6-8"), 5, 5, 9, 9, 15, 29);
        holes("in ascending order", texts("20", "10", "15", "5"), 0, 4, 6, 9, 11, 14, 16, 19, 21, 29);
    }

    private static void overlapping() {
        check.of("Promise 20, intervals: to add is to merge with all that overlap");
        holes("the same", texts("5-9", "5-9"), 0, 4, 10, 29);
        holes("inside", texts("5-9", "6-8"), 0, 4, 10, 29);
        holes("its first", texts("5-9", "5"), 0, 4, 10, 29);
        holes("its last", texts("5-9", "9"), 0, 4, 10, 29);
        holes("around", texts("6-8", "5-9"), 0, 4, 10, 29);
        holes("over its beginning", texts("5-9", "3-5"), 0, 2, 10, 29);
        holes("over its end", texts("5-9", "9-12"), 0, 4, 13, 29);
        holes("longer to both sides", texts("7", "0-13"), 14, 29);
    }

    private static void bridging() {
        check.of("Promise 20, intervals: to add is to merge with all that it touches or overlaps");
        holes("the one integer between two", texts("0-4,6-9", "5"), 10, 29);
        holes("touching both", texts("0-4,8-9", "5-7"), 10, 29);
        holes("touching one, overlapping one", texts("0-4,8-9", "5-8"), 10, 29);
        holes("over three", texts("3,6,9,25", "2-10"), 0, 1, 11, 24, 26, 29);
        holes("touching the first and the last of four", texts("3,6,9,12", "4-11"), 0, 2, 13, 29);
        holes("leaving those one away", texts("1,5,9,13", "3-11"), 0, 0, 2, 2, 12, 12, 14, 29);
        holes("all of them", texts("1,5,9,13", "0-14"), 15, 29);
    }

    private static void emptyAndWhole() {
        check.of("Promise 20, intervals: holes within [0, n]");
        holes("of an empty list", texts(), 0, 29);
        holes("of a whole list", texts("0-15", "16-29"));
        holes("none at 0", texts("0-9"), 10, 29);
        holes("none at n", texts("20-29"), 0, 19);
        holes("none at both", texts("0,29"), 1, 28);
        holes("of one integer each", texts("1-28"), 0, 0, 29, 29);
    }

    private static void twelveOfBytes() {
        check.of("Promise 20, intervals: a list has at most 12 intervals");
        OrbitMailbox m = oddBytes(11);
        check.due("eleven", m.receivedBytes(0, 0), 11);
        check.due("eleven leave twelve holes", m.byteHole(0, 0, -1), 12);
        m = oddBytes(12);
        check.due("twelve", m.receivedBytes(0, 0), 12);
        check.due("twelve leave thirteen holes", m.byteHole(0, 0, -1), 13);
        check.due("the twelfth is received", m.receivedByte(0, 0, 23), m.fileByte(0, 23));
        check.due("the last hole begins", m.byteHole(0, 0, 24), 24);
        check.due("the last hole ends", m.byteHole(0, 0, 25), 319);
        check.due("there is no fourteenth", m.byteHole(0, 0, 26), NONE);
    }

    private static void thirteenthOfBytes() {
        check.of("Promise 20, intervals: if the list would have more than 12, nothing is added");
        String[] texts = {"25", "27-30", "319", "304-319", "25-40"};
        for (String text : texts) {
            OrbitMailbox m = oddBytes(12);
            int[] before = byteHoles(m, 0, 0);
            fetch(m, 0, "f0:" + text + ";");
            check.dueAll(text, byteHoles(m, 0, 0), before);
            check.due(text + ", receivedBytes", m.receivedBytes(0, 0), 12);
            check.due(text + ", bytes added", m.stationTotal(0, 2), 12);
            check.due(text + ", had already", m.stationTotal(0, 3), 0);
            check.due(text + ", but the frame was received", m.lastFrame(4), 1);
        }
        OrbitMailbox m = opened(320, 1000);
        fetch(m, 0, "f0:3,5,7,9;");
        fetch(m, 0, "f0:11,13,15,17;");
        fetch(m, 0, "f0:19,21,23,25;");
        fetch(m, 0, "f0:1;");
        check.due("a thirteenth before the first", m.receivedBytes(0, 0), 12);
        check.due("the first hole stays", m.byteHole(0, 0, 1), 2);
        fetch(m, 0, "f0:15-16;");
        check.due("a merging one is added then", m.receivedBytes(0, 0), 13);
        fetch(m, 0, "f0:1;");
        check.due("which makes room for one", m.receivedBytes(0, 0), 14);
    }

    private static void fullListMerges() {
        check.of("Promise 20, intervals: to a full list is added what merges");
        String[] texts = {"0", "24", "2", "22", "1", "23", "3-4", "0-2", "23-30", "24-30", "12-27", "1-23"};
        int[] had = {13, 13, 13, 13, 12, 12, 13, 14, 19, 19, 22, 23};
        for (int i = 0; i < texts.length; i++) {
            OrbitMailbox m = oddBytes(12);
            fetch(m, 0, "f0:" + texts[i] + ";");
            check.due(texts[i], m.receivedBytes(0, 0), had[i]);
        }
        OrbitMailbox m = oddBytes(12);
        fetch(m, 0, "f0:2;");
        fetch(m, 0, "f0:100;");
        check.due("after two have merged there is room for one", m.receivedByte(0, 0, 100),
            m.fileByte(0, 100));
        fetch(m, 0, "f0:200;");
        check.due("but not for another", m.receivedByte(0, 0, 200), NONE);
    }

    private static void twelveOfTimes() {
        check.of("Promise 14, intervals: a list of times has at most 12 intervals");
        OrbitMailbox m = coveredApart(12);
        check.due("twelve", m.covered(0, -1), 12);
        check.due("the last begins", m.covered(0, 22), 56);
        check.due("the last ends", m.covered(0, 23), 58);
        check.due("there is no thirteenth", m.covered(0, 24), NONE);
        check.of("Promise 15, intervals: thirteen holes at most");
        check.due("thirteen", m.timeHole(0, -1), 13);
        check.due("the first begins", m.timeHole(0, 0), 0);
        check.due("the first ends", m.timeHole(0, 1), 0);
        check.due("the last begins", m.timeHole(0, 24), 59);
        check.due("the last ends at the present time", m.timeHole(0, 25), 60);
        check.due("there is no fourteenth", m.timeHole(0, 26), NONE);
    }

    private static void thirteenthOfTimes() {
        check.of("Promise 14, intervals: if the list would have more than 12, nothing is added");
        OrbitMailbox m = coveredApart(12);
        int[] before = covered(m, 0);
        m.store(1, 0, 5);
        m.run(3);
        ask(m, 0, "d:63;");
        m.run(1);
        check.dueAll("the empty entry", frame(m), OrbitMailbox.DIRECTORY, -1, 61, 63, 1);
        check.dueAll("is not added", covered(m, 0), before);
    }

    private static void fullListOfTimesMerges() {
        check.of("Promise 14, intervals: to a full list is added what merges");
        OrbitMailbox m = coveredApart(12);
        // File 11 was stored at 55 for 5 ticks, so none exists now: an empty entry covers all.
        ask(m, 0, "d:58;");
        m.run(1);
        check.dueAll("the entry", frame(m), OrbitMailbox.DIRECTORY, -1, 0, 58, 1);
        check.dueAll("all twelve are one", covered(m, 0), 0, 58);
    }

    private static void timesTouching() {
        check.of("Promise 14, intervals: no two touch");
        OrbitMailbox m = watched(0);
        m.run(2);
        m.store(1, 0, 1000);
        m.run(1);
        fetch(m, 0, "d:3;");
        check.dueAll("from behind the file", covered(m, 0), 3, 3);
        fetch(m, 0, "d:1;");
        check.dueAll("an integer between", covered(m, 0), 0, 1, 3, 3);
        check.dueAll("which is a hole", timeHoles(m, 0), 2, 2, 4, 5);
        fetch(m, 0, "d:5;");
        check.dueAll("longer by a merge", covered(m, 0), 0, 1, 3, 5);
        fetch(m, 0, "d:2;");
        check.dueAll("the integer between comes", covered(m, 0), 0, 5);
        check.dueAll("and is no hole", timeHoles(m, 0), 6, 7);
    }
}
