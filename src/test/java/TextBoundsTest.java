/** The boundary cases of promises 27 to 30, and of the terms "Request texts". */
public final class TextBoundsTest extends MailboxStates {
    private static final Check check = new Check("TextBoundsTest");
    private static final String DIGITS = "0123456789";

    public static void main(String[] args) {
        typeCodes();
        typeSixty();
        clearText();
        everyCharacter();
        endsTooSoon();
        nothingElse();
        digits();
        secondNumber();
        nextHole();
        fourHoles();
        longestText();
        requestTextStation();
        requestTextFault();
        requestTextFile();
        requestTextBytes();
        requestTextTimes();
        requestTextInView();
        requestTextOnce();
        requestTextNeedsNothingElse();
        requestTextStays();
        check.end();
    }

    private static void due(String what, int got, int want) {
        check.due(what, got, want);
    }

    private static void faults(String text, int want) {
        check.due("'" + text + "'", faultOf(text), want);
    }

    private static void typeCodes() {
        check.of("Promise 27: character: its code, 32 to 126");
        OrbitMailbox m = new OrbitMailbox();
        int[] wrong = {31, 127, 0, -1, 256 + 100, 65536 + 100, 65536 + 32, HUGE, TINY};
        for (int code : wrong) {
            due("code " + code, m.type(code), BAD);
        }
        due("32", m.type(32), 1);
        due("126", m.type(126), 2);
        due("the text has these two", m.clearText(), 2);
    }

    private static void typeSixty() {
        check.of("Promise 27: CAPACITY_EXCEEDED if the text has 60 characters");
        OrbitMailbox m = new OrbitMailbox();
        write(m, "d:0;");
        for (int length = 5; length <= 60; length++) {
            due("character " + length, m.type('x'), length);
        }
        due("a 61st", m.type('x'), FULL);
        due("a 61st again", m.type('d'), FULL);
        due("the text is as it was", m.fault(), 4);
        check.of("Errors: INVALID_ARGUMENT rather than CAPACITY_EXCEEDED (promise 27)");
        due("31", m.type(31), BAD);
        due("127", m.type(127), BAD);
        check.of("Promise 28: returns the length it had");
        due("of a full text", m.clearText(), 60);
        due("which has room then", m.type('d'), 1);
    }

    private static void clearText() {
        check.of("Promise 28: returns the length it had");
        OrbitMailbox m = new OrbitMailbox();
        due("of an empty text", m.clearText(), 0);
        m.type('d');
        due("of one character", m.clearText(), 1);
        due("of an emptied text", m.clearText(), 0);
        due("its fault", m.fault(), 0);
        write(m, "d:12345;");
        m.clearText();
        m.type('d');
        m.type(':');
        m.type('9');
        due("nothing of the text before stays", m.fault(), 3);
        m.type(';');
        due("nor behind", m.fault(), NONE);
    }

    /** Each of the 95 characters behind the text: a fault there, unless it is an allowed one. */
    private static void follows(String text, String allowed) {
        for (char c = 32; c <= 126; c++) {
            boolean ends = c == ';' && allowed.indexOf(c) >= 0;
            int place = text.length() + (allowed.indexOf(c) >= 0 ? 1 : 0);
            faults(text + c, ends ? NONE : place);
        }
    }

    private static void everyCharacter() {
        check.of("Promise 29: the first character that the rules do not allow at its place");
        follows("", "df");
        follows("d", ":");
        follows("f", DIGITS);
        follows("f1", DIGITS + ":");
        follows("f1234", DIGITS + ":");
        follows("f12345", ":");
        follows("d:", DIGITS);
        follows("f1:", DIGITS);
        follows("d:5", DIGITS + "-,;");
        follows("d:1234", DIGITS + "-,;");
        follows("d:12345", "-,;");
        follows("f7:12345", "-,;");
        // A digit that is too small has its fault at its own place.
        follows("d:5-", "56789");
        follows("d:5-7", DIGITS + ",;");
        follows("d:5-12345", ",;");
        follows("d:5,", "789");
        follows("d:5-6,", "89");
        follows("d:5,9", DIGITS + "-,;");
        follows("d:5,9-", "9");
        follows("d:0,2,4", DIGITS + "-,;");
        follows("d:0,2,4,", "6789");
        follows("d:0,2,4,6", DIGITS + "-;");
        follows("d:0,2,4,6-8", DIGITS + ";");
        follows("d:0,2,4,12345", "-;");
        follows("d:0,2,4,6-12345", ";");
        follows("d:5;", "");
        follows("f0:0-9;", "");
    }

    private static void endsTooSoon() {
        check.of("Promise 29: the length of the text if it ends too soon");
        parts("d:7;", 0, 1, 2, 3, NONE);
        parts("f12:0;", 0, 1, 2, 3, 4, 5, NONE);
        parts("d:1-9,11;", 0, 1, 2, 3, 4, 5, 6, 6, 8, NONE);
        check.of("Promise 29: too small, also if the text ends there");
        parts("f3:10-25,27,40-41,99999;", 0, 1, 2, 3, 4, 5, 6, 6, 8, 9, 9, 11, 12, 12, 14, 15, 15,
            17, 18, 18, 20, 21, 22, 23, NONE);
        parts("d:00002-00003,00005;", 0, 1, 2, 3, 4, 5, 6, 7, 8, 8, 8, 8, 8, 13, 14, 14, 14, 14, 14,
            19, NONE);
    }

    /** The faults of a text's first characters, from none of them to all. */
    private static void parts(String text, int... want) {
        for (int length = 0; length < want.length; length++) {
            faults(text.substring(0, length), want[length]);
        }
        check.due("parts of " + text, want.length, text.length() + 1);
    }

    private static void nothingElse() {
        check.of("Promise 29: and nothing else");
        String[] more = {";", ",", "d", "0", " ", "~", ";;", "d:0;"};
        for (String end : more) {
            faults("d:0;" + end, 4);
            faults("f0:0-5;" + end, 7);
        }
        faults(" d:0;", 0);
        faults("d :0;", 1);
        faults("d: 0;", 2);
        faults("d:0 ;", 3);
        faults("D:0;", 0);
        faults("F0:0;", 0);
        faults("d0:0;", 1);
        faults("f:0;", 1);
        faults("d;", 1);
        faults("d:;", 2);
    }

    private static void digits() {
        check.of("Promise 29: numbers have 1 to 5 digits");
        faults("f0:0;", NONE);
        faults("f99999:0;", NONE);
        faults("f100000:0;", 6);
        faults("f000000:0;", 6);
        faults("d:99999;", NONE);
        faults("d:100000;", 7);
        faults("d:000000;", 7);
        faults("d:00000;", NONE);
        faults("d:0-99999;", NONE);
        faults("d:0-100000;", 9);
        faults("d:0-000000;", 9);
        faults("d:0,99999;", NONE);
        faults("d:0,100000;", 9);
        check.of("Promise 29: the characters next to the digits are none");
        faults("d:/;", 2);
        faults("d::;", 2);
        faults("d:0/;", 3);
        faults("d:0:;", 3);
        faults("f/:0;", 1);
        faults("f0/:0;", 2);
        faults("f0::0;", 3);
    }

    private static void secondNumber() {
        check.of("Promise 29: the second number is at least the first one");
        faults("d:5-4;", 4);
        faults("d:5-5;", NONE);
        faults("d:5-6;", NONE);
        faults("d:0-0;", NONE);
        faults("d:1-0;", 4);
        faults("d:99999-99998;", 8);
        faults("d:99999-99999;", NONE);
        faults("d:9-10;", NONE);
        faults("d:10-9;", 5);
        faults("d:0,10-9;", 7);
        faults("d:0,10-10;", NONE);
        check.of("Promise 29: a number is read as far as its digits go, but at most 5");
        faults("d:50-4", 5);
        faults("d:50-49", 5);
        faults("d:50-490", 8);
        faults("d:50-490;", NONE);
        faults("d:50-00049;", 5);
        faults("d:50-00050;", NONE);
        faults("d:50-000500;", 10);
        faults("d:51-000500;", 5);
        faults("d:12345-123456;", 13);
        faults("d:12346-123456;", 8);
        faults("d:50-49x", 5);
        faults("d:50-51x", 7);
    }

    private static void nextHole() {
        check.of("Promise 29: each hole begins at least 2 above the end of the one before");
        faults("d:0,0;", 4);
        faults("d:0,1;", 4);
        faults("d:0,2;", NONE);
        faults("d:5-9,8;", 6);
        faults("d:5-9,9;", 6);
        faults("d:5-9,10;", 6);
        faults("d:5-9,11;", NONE);
        faults("d:5,6;", 4);
        faults("d:5,7;", NONE);
        faults("d:99997,99999;", NONE);
        faults("d:99998,99999;", 8);
        faults("d:99999,99999;", 8);
        faults("d:99999,0;", 8);
        faults("d:99999,", 8);
        faults("d:0-99997,99999-99999;", NONE);
        faults("d:0,2,4,5;", 8);
        faults("d:0,2,4-6,8;", NONE);
        faults("d:0,2,4-6,7;", 10);
        check.of("Promise 29: the beginning of a hole, as far as its digits go");
        faults("d:20,2", 5);
        faults("d:20,21", 5);
        faults("d:20,22", 7);
        faults("d:20,220;", NONE);
        faults("d:20,00021;", 5);
        faults("d:20,00022;", NONE);
        faults("d:20,000220;", 10);
        faults("d:21,000220;", 5);
        faults("d:20,21-30;", 5);
        faults("d:20,21x", 5);
        faults("d:20000,200000;", 8);
        faults("d:10000,200000;", 13);
    }

    private static void fourHoles() {
        check.of("Promise 29: 1 to 4 holes, separated by ,");
        faults("d:;", 2);
        faults("d:,0;", 2);
        faults("d:0;", NONE);
        faults("d:0,2;", NONE);
        faults("d:0,2,4;", NONE);
        faults("d:0,2,4,6;", NONE);
        faults("d:0,2,4,6,8;", 9);
        faults("d:0,2,4,6,;", 9);
        faults("d:0,2,4,6-7,9;", 11);
        faults("f0:0-1,3-4,6-7,9-10;", NONE);
        faults("f0:0-1,3-4,6-7,9-10,12;", 19);
        faults("d:0,;", 4);
        faults("d:0,,2;", 4);
        faults("d:0-;", 4);
        faults("d:0--1;", 4);
        faults("d:0-1-2;", 5);
        faults("d:-1;", 2);
    }

    private static void longestText() {
        check.of("Promise 29: the longest text without a fault, and those that fill the 60 places");
        String longest = "f00000:00000-00001,00003-00004,00006-00007,00009-00010;";
        faults(longest, NONE);
        faults(longest.substring(0, 54), 54);
        faults(longest + ";", 55);
        faults(longest + "     ", 55);
        StringBuilder zeros = new StringBuilder("d:");
        StringBuilder blanks = new StringBuilder();
        for (int i = 0; i < 58; i++) {
            zeros.append('0');
        }
        for (int i = 0; i < 60; i++) {
            blanks.append(' ');
        }
        faults(zeros.toString(), 7);
        faults(blanks.toString(), 0);
        OrbitMailbox m = watched(0);
        m.store(320, 0, 1000);
        due("it can be asked for", ask(m, 0, longest), 1);
        check.dueAll("the request", request(m, 0), 0, OrbitMailbox.FILE, 0, 4, 8, 0);
    }

    private static void requestTextStation() {
        check.of("Promise 30: station: number of a station");
        OrbitMailbox m = crowded(5);
        write(m, "d:0;");
        int[] wrong = {-1, 5, 6, HUGE, TINY};
        for (int s : wrong) {
            due("station " + s, m.requestText(s), BAD);
        }
        due("the last station", m.requestText(4), 1);
        due("the first station", m.requestText(0), 2);
        check.of("Errors: INVALID_ARGUMENT rather than NOT_POSSIBLE (promise 30)");
        m.clearText();
        due("no station and a fault", m.requestText(5), BAD);
        due("a fault alone", m.requestText(1), IMPOSSIBLE);
    }

    private static void requestTextFault() {
        check.of("Promise 30: NOT_POSSIBLE if the text has a fault");
        OrbitMailbox m = watched(0);
        m.store(320, 0, 1000);
        m.run(20);
        String[] faulty = {"", "d", "d:", "d:0", "d:0;;", "d:0,1;", "d:5-4;", "d:0,2,4,6,8;", "f0:0",
            "f:0;", "d:000000;", "f000000:0;", "d:0 ;"};
        for (String text : faulty) {
            due("'" + text + "'", ask(m, 0, text), IMPOSSIBLE);
        }
        due("nothing is in the queue", m.queueLength(), 0);
        due("without a fault", ask(m, 0, "d:0,2,4,6;"), 1);
    }

    private static void requestTextFile() {
        check.of("Promise 30: NOT_POSSIBLE if it names a file that does not exist");
        OrbitMailbox m = watched(0);
        due("no file at all", ask(m, 0, "f0:0;"), IMPOSSIBLE);
        m.store(320, 0, 4);
        m.run(1);
        m.store(320, 0, 1000);
        String[] names = {"f1", "f00001", "f0", "f00000"};
        for (String name : names) {
            due(name, ask(m, 0, name + ":0;"), 1);
            m.withdraw(0);
        }
        String[] wrong = {"f2", "f29", "f30", "f32", "f99999", "f00002"};
        for (String name : wrong) {
            due(name, ask(m, 0, name + ":0;"), IMPOSSIBLE);
        }
        m.run(2);
        due("at its last time", ask(m, 0, "f0:0;"), 1);
        m.withdraw(0);
        m.run(1);
        due("when it is gone", ask(m, 0, "f0:0;"), IMPOSSIBLE);
    }

    private static void requestTextBytes() {
        check.of("Promise 30: NOT_POSSIBLE if a hole ends after the last byte of the file");
        OrbitMailbox m = watched(0);
        m.store(1, 0, 1000);
        m.run(1);
        m.store(320, 0, 1000);
        m.run(400);
        String[] fine = {"f0:0;", "f0:0-0;", "f1:319;", "f1:0-319;", "f1:0,319;", "f1:0,2,4,6-319;"};
        for (String text : fine) {
            due(text, ask(m, 0, text), 1);
            m.withdraw(0);
        }
        String[] wrong = {"f0:1;", "f0:0-1;", "f1:320;", "f1:319-320;", "f1:0-320;", "f1:0,320;",
            "f1:0,2,4,6-320;", "f1:99999;", "f0:0,2;"};
        for (String text : wrong) {
            due(text, ask(m, 0, text), IMPOSSIBLE);
        }
        due("nothing is in the queue", m.queueLength(), 0);
    }

    private static void requestTextTimes() {
        check.of("Promise 30: NOT_POSSIBLE if a hole ends after the present time");
        OrbitMailbox m = watched(0);
        due("0 at 0", ask(m, 0, "d:0;"), 1);
        m.withdraw(0);
        due("1 at 0", ask(m, 0, "d:1;"), IMPOSSIBLE);
        due("0 to 1 at 0", ask(m, 0, "d:0-1;"), IMPOSSIBLE);
        m.run(500);
        String[] fine = {"d:500;", "d:0-500;", "d:0,500;", "d:0,2,4,6-500;"};
        for (String text : fine) {
            due(text + " at 500", ask(m, 0, text), 1);
            m.withdraw(0);
        }
        String[] wrong = {"d:501;", "d:500-501;", "d:0-501;", "d:0,501;", "d:0,2,4,6-501;", "d:99999;"};
        for (String text : wrong) {
            due(text + " at 500", ask(m, 0, text), IMPOSSIBLE);
        }
        due("nothing is in the queue", m.queueLength(), 0);
        m.run(1);
        due("501 at 501", ask(m, 0, "d:501;"), 1);
        OrbitMailbox late = watched(0);
        pass(late, 99999);
        due("99999 at 99999", ask(late, 0, "d:99999;"), 1);
    }

    private static void requestTextInView() {
        check.of("Promise 30: NOT_POSSIBLE if the station is not in view");
        OrbitMailbox m = new OrbitMailbox();
        m.addStation(10, 2, 3, 0);
        write(m, "d:0;");
        for (int t = 0; t < 16; t++) {
            boolean inView = t % 10 >= 2 && t % 10 <= 4;
            due("at " + t, m.requestText(0), inView ? 1 : IMPOSSIBLE);
            m.withdraw(0);
            m.run(1);
        }
    }

    private static void requestTextOnce() {
        check.of("Promise 30: NOT_POSSIBLE if the station has a request in the queue");
        OrbitMailbox m = opened(20, 1000);
        write(m, "d:0;");
        due("the first", m.requestText(0), 1);
        due("a second", m.requestText(0), IMPOSSIBLE);
        m.run(1);
        due("when it is done", m.requestText(0), 1);
        m.withdraw(0);
        m.requestFile(0, 0);
        due("behind one for a file", m.requestText(0), IMPOSSIBLE);
        m.withdraw(0);
        m.requestDirectory(0);
        due("behind one for the directory", m.requestText(0), IMPOSSIBLE);
        m.withdraw(0);
        due("when it is withdrawn", m.requestText(0), 1);
    }

    private static void requestTextNeedsNothingElse() {
        check.of("Promise 30: the file need be neither known nor open, nor the bytes be missing");
        OrbitMailbox m = watched(0);
        m.store(20, 0, 1000);
        m.run(1);
        due("not known", ask(m, 0, "f0:0-19;"), 1);
        m.run(2);
        due("sent", m.total(0), 2);
        due("not known by its bytes", m.directory(0), 0);
        m.requestDirectory(0);
        m.run(1);
        m.withdraw(0);
        m.open(0, 0);
        fetch(m, 0, "f0:0-19;");
        due("complete", m.completeFiles(0), 1);
        due("complete, for a file", m.requestFile(0, 0), IMPOSSIBLE);
        due("complete, as a text", ask(m, 0, "f0:0-19;"), 1);
        m.withdraw(0);
        due("times that are covered", ask(m, 0, "d:0;"), 1);
    }

    private static void requestTextStays() {
        check.of("Promise 30: the text stays");
        OrbitMailbox m = crowded(3);
        m.run(9);
        write(m, "d:0-3,5;");
        for (int s = 0; s < 3; s++) {
            due("for station " + s, m.requestText(s), s + 1);
            due("without a fault", m.fault(), NONE);
            check.dueAll("the same request", request(m, s), s, OrbitMailbox.DIRECTORY, -1, 2, 5, 0);
        }
        m.run(1);
        due("one request is sent, not the text", m.fault(), NONE);
        check.dueAll("the others are whole", request(m, 0), 1, OrbitMailbox.DIRECTORY, -1, 2, 5, 0);
        due("its length", m.clearText(), 8);
        due("the requests stay without it", m.queueLength(), 3);
    }
}
