import java.util.ArrayList;
import java.util.List;

/** All that the calls tell of an object; what only a change can tell is asked last. */
final class MailboxState {
    private final OrbitMailbox m;
    private final List<Integer> numbers = new ArrayList<>();

    private MailboxState(OrbitMailbox m) {
        this.m = m;
    }

    /** Stations, files and requests; then the text's length and the rates, which this sets to 0. */
    static int[] of(OrbitMailbox m) {
        MailboxState state = new MailboxState(m);
        state.satellite();
        state.files();
        for (int s = 0; m.directory(s) >= 0; s++) {
            state.station(s);
        }
        state.queue();
        state.add(m.clearText());
        for (int s = 0; m.directory(s) >= 0; s++) {
            state.add(m.setLoss(s, 0));
        }
        return state.numbers.stream().mapToInt(Integer::intValue).toArray();
    }

    private void add(int number) {
        numbers.add(number);
    }

    private void satellite() {
        add(m.time());
        add(m.fileCount());
        add(m.existingCount());
        add(m.fault());
        add(m.ticksToEmpty());
        for (int what = 0; what < 5; what++) {
            add(m.total(what));
            add(m.lastFrame(what));
        }
    }

    /** Of many files only the last ones, for an object has 512 calls. */
    private void files() {
        int count = m.fileCount();
        for (int f = Math.max(0, count - 8); f < count; f++) {
            for (int what = 0; what < 4; what++) {
                add(m.fileInfo(f, what));
            }
            add(m.fileByte(f, 0));
        }
    }

    private void station(int s) {
        add(m.directory(s));
        add(m.unknownFiles(s));
        add(m.completeFiles(s));
        add(m.nextView(s, 0));
        add(m.nextView(s, m.time()));
        for (int what = 0; what < 4; what++) {
            add(m.stationTotal(s, what));
        }
        int intervals = m.covered(s, -1);
        add(intervals);
        for (int i = 0; i < 2 * intervals; i++) {
            add(m.covered(s, i));
        }
        int known = m.directory(s);
        for (int f = 0; f < 30; f++) {
            if ((known >> f & 1) == 1) {
                openFile(s, f);
            }
        }
    }

    private void openFile(int s, int f) {
        int bytes = m.receivedBytes(s, f);
        add(bytes);
        int holes = bytes < 0 ? 0 : m.byteHole(s, f, -1);
        for (int i = 0; i < 2 * holes; i++) {
            add(m.byteHole(s, f, i));
        }
    }

    private void queue() {
        int length = m.queueLength();
        add(length);
        for (int place = 0; place < length; place++) {
            for (int what = 0; what < 6; what++) {
                add(m.queued(place, what));
            }
        }
    }
}
