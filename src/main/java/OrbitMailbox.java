/**
 * A store-and-forward satellite that broadcasts files in blocks to ground stations.
 *
 * Nothing is made after the constructor: all rows have their greatest length from the beginning,
 * and the simulations work on a second satellite that is overwritten with the state of the first.
 */
public final class OrbitMailbox {
    public static final int INVALID_ARGUMENT = -1;
    public static final int NOT_POSSIBLE = -2;
    public static final int CAPACITY_EXCEEDED = -3;
    public static final int NOT_FOUND = -4;
    public static final int IDLE = 0, FILE = 1, DIRECTORY = 2;

    private static final int MAX_STATIONS = 5;
    private static final int MAX_FILES = 30;
    private static final int MAX_EXISTING = 8;
    private static final int MAX_OPEN = 3;
    private static final int MAX_INTERVALS = 12;
    private static final int MAX_REQUESTS = 6;
    private static final int MAX_HOLES = 4;
    private static final int MAX_TEXT = 60;
    private static final int MAX_DIGITS = 5;
    private static final int MAX_LENGTH = 320;
    private static final int MAX_TIME = 1000000;
    private static final int MAX_RUN = 1000;
    private static final int BLOCK = 16;
    private static final int MAX_TICKS_TO_COMPLETE = 2000;
    // Some 120 frames empty the fullest queue; the bound only makes the loop's end plain.
    private static final int MAX_TICKS_TO_EMPTY = 1000000;

    /** Stands for "no file": in free places, directory requests, idle frames and empty entries. */
    private static final int NO_FILE = -1;

    // Places in the counts that total tells.
    private static final int FILE_FRAMES = 0, DIRECTORY_FRAMES = 1, IDLE_FRAMES = 2;
    private static final int REQUESTS_DONE = 3, REQUESTS_DROPPED = 4, TOTALS = 5;

    // Places in the counts that stationTotal tells.
    private static final int FRAMES_RECEIVED = 0, FRAMES_LOST = 1, BYTES_ADDED = 2;
    private static final int BYTES_REPEATED = 3, STATION_TOTALS = 4;

    private final Files files;
    private final Satellite satellite;
    private final Satellite imagined;
    private final RequestText text;

    public OrbitMailbox() {
        files = new Files();
        satellite = new Satellite(files);
        imagined = new Satellite(files);
        text = new RequestText();
    }

    // ---- stations

    public int addStation(int period, int offset, int duration, int priority) {
        if (!within(period, 1, 1000) || !within(offset, 0, 1000)
                || !within(duration, 1, period) || !within(priority, 0, 2)) {
            return INVALID_ARGUMENT;
        }
        return satellite.admit(period, offset, duration, priority);
    }

    public int setLoss(int station, int rate) {
        if (!isStation(station) || !within(rate, 0, 1000)) {
            return INVALID_ARGUMENT;
        }
        Station changed = satellite.stations[station];
        int previous = changed.loss;
        changed.loss = rate;
        return previous;
    }

    public int inView(int station, int time) {
        if (!isStation(station) || !within(time, 0, MAX_TIME)) {
            return INVALID_ARGUMENT;
        }
        return satellite.stations[station].sees(time) ? 1 : 0;
    }

    public int nextView(int station, int time) {
        if (!isStation(station) || !within(time, 0, MAX_TIME)) {
            return INVALID_ARGUMENT;
        }
        return satellite.stations[station].firstSight(time);
    }

    public int receives(int station, int time) {
        if (!isStation(station) || !within(time, 0, MAX_TIME)) {
            return INVALID_ARGUMENT;
        }
        Station asked = satellite.stations[station];
        return asked.sees(time) && !asked.isHit(time) ? 1 : 0;
    }

    // ---- files

    public int store(int length, int seed, int lifetime) {
        if (!within(length, 1, MAX_LENGTH) || !within(seed, 0, 255)
                || !within(lifetime, 1, 100000)) {
            return INVALID_ARGUMENT;
        }
        int now = satellite.now;
        if (files.hasStoredAt(now)) {
            return NOT_POSSIBLE;
        }
        if (files.countExisting(now) >= MAX_EXISTING) {
            return CAPACITY_EXCEEDED;
        }
        return files.put(length, seed, lifetime, now);
    }

    public int fileInfo(int file, int what) {
        if (!files.isStored(file) || !within(what, 0, 3)) {
            return INVALID_ARGUMENT;
        }
        switch (what) {
            case 0:
                return files.lengths[file];
            case 1:
                return files.storedAt[file];
            case 2:
                return files.lifetimes[file];
            default:
                return files.exists(file, satellite.now) ? 1 : 0;
        }
    }

    public int fileByte(int file, int index) {
        if (!files.isStored(file) || index < 0) {
            return INVALID_ARGUMENT;
        }
        if (index >= files.lengths[file]) {
            return NOT_FOUND;
        }
        return files.byteAt(file, index);
    }

    public int fileCount() {
        return files.count;
    }

    public int existingCount() {
        return files.countExisting(satellite.now);
    }

    // ---- stations' directories and open files

    public int directory(int station) {
        if (!isStation(station)) {
            return INVALID_ARGUMENT;
        }
        return satellite.stations[station].knownFiles;
    }

    public int unknownFiles(int station) {
        if (!isStation(station)) {
            return INVALID_ARGUMENT;
        }
        Station asked = satellite.stations[station];
        int unknown = 0;
        for (int file = 0; file < files.count; file++) {
            if (files.exists(file, satellite.now) && !asked.knows(file)) {
                unknown++;
            }
        }
        return unknown;
    }

    public int covered(int station, int index) {
        if (!isStation(station) || index < -1) {
            return INVALID_ARGUMENT;
        }
        return satellite.stations[station].times.number(index);
    }

    public int timeHole(int station, int index) {
        if (!isStation(station) || index < -1) {
            return INVALID_ARGUMENT;
        }
        return satellite.stations[station].times.holeNumber(satellite.now, index);
    }

    public int open(int station, int file) {
        if (!isStation(station) || !files.isStored(file)) {
            return INVALID_ARGUMENT;
        }
        Station opening = satellite.stations[station];
        if (!opening.knows(file) || opening.bytesOf(file) != null) {
            return NOT_POSSIBLE;
        }
        if (!opening.beginFile(file)) {
            return CAPACITY_EXCEEDED;
        }
        return opening.countOpen();
    }

    public int close(int station, int file) {
        if (!isStation(station) || !files.isStored(file)) {
            return INVALID_ARGUMENT;
        }
        Station closing = satellite.stations[station];
        Intervals bytes = closing.bytesOf(file);
        if (bytes == null) {
            return NOT_POSSIBLE;
        }
        closing.endFile(file);
        return bytes.size();
    }

    public int receivedBytes(int station, int file) {
        if (!isStation(station) || !files.isStored(file)) {
            return INVALID_ARGUMENT;
        }
        Intervals bytes = satellite.stations[station].bytesOf(file);
        if (bytes == null) {
            return NOT_POSSIBLE;
        }
        return bytes.size();
    }

    public int receivedByte(int station, int file, int index) {
        if (!isStation(station) || !files.isStored(file) || index < 0) {
            return INVALID_ARGUMENT;
        }
        Intervals bytes = satellite.stations[station].bytesOf(file);
        if (bytes == null) {
            return NOT_POSSIBLE;
        }
        if (bytes.overlap(index, index) == 0) {
            return NOT_FOUND;
        }
        return files.byteAt(file, index);
    }

    public int byteHole(int station, int file, int index) {
        if (!isStation(station) || !files.isStored(file) || index < -1) {
            return INVALID_ARGUMENT;
        }
        Intervals bytes = satellite.stations[station].bytesOf(file);
        if (bytes == null) {
            return NOT_POSSIBLE;
        }
        return bytes.holeNumber(files.lengths[file] - 1, index);
    }

    public int completeFiles(int station) {
        if (!isStation(station)) {
            return INVALID_ARGUMENT;
        }
        int complete = 0;
        for (int file = 0; file < files.count; file++) {
            if (satellite.isComplete(station, file)) {
                complete++;
            }
        }
        return complete;
    }

    // ---- requests

    public int requestDirectory(int station) {
        if (!isStation(station)) {
            return INVALID_ARGUMENT;
        }
        return satellite.askDirectory(station);
    }

    public int requestFile(int station, int file) {
        if (!isStation(station) || !files.isStored(file)) {
            return INVALID_ARGUMENT;
        }
        return satellite.askFile(station, file);
    }

    public int withdraw(int station) {
        if (!isStation(station)) {
            return INVALID_ARGUMENT;
        }
        Queue queue = satellite.queue;
        int place = queue.placeOf(station);
        if (place < 0) {
            return NOT_FOUND;
        }
        queue.remove(place);
        return queue.length;
    }

    public int queueLength() {
        return satellite.queue.length;
    }

    public int queued(int place, int what) {
        if (place < 0 || !within(what, 0, 5)) {
            return INVALID_ARGUMENT;
        }
        if (place >= satellite.queue.length) {
            return NOT_FOUND;
        }
        Request request = satellite.queue.requests[place];
        switch (what) {
            case 0:
                return request.station;
            case 1:
                return request.isForDirectory() ? DIRECTORY : FILE;
            case 2:
                return request.file;
            case 3:
                return request.holes.count;
            case 4:
                return request.holes.size();
            default:
                return request.framesLeft;
        }
    }

    // ---- request texts

    public int type(int character) {
        if (!within(character, 32, 126)) {
            return INVALID_ARGUMENT;
        }
        if (!text.append((char) character)) {
            return CAPACITY_EXCEEDED;
        }
        return text.length;
    }

    public int clearText() {
        int previous = text.length;
        text.length = 0;
        return previous;
    }

    public int fault() {
        return text.read() ? NOT_FOUND : text.position;
    }

    public int requestText(int station) {
        if (!isStation(station)) {
            return INVALID_ARGUMENT;
        }
        if (!text.read()) {
            return NOT_POSSIBLE;
        }
        return satellite.askHoles(station, text.file, text.holes);
    }

    // ---- ticks

    public int run(int ticks) {
        if (!within(ticks, 1, MAX_RUN)) {
            return INVALID_ARGUMENT;
        }
        if (satellite.now + ticks > MAX_TIME) {
            return CAPACITY_EXCEEDED;
        }
        for (int i = 0; i < ticks; i++) {
            satellite.tick();
        }
        return satellite.now;
    }

    public int time() {
        return satellite.now;
    }

    public int lastFrame(int what) {
        if (!within(what, 0, 4)) {
            return INVALID_ARGUMENT;
        }
        Frame frame = satellite.frame;
        if (!frame.isSent || (frame.kind == IDLE && (what == 2 || what == 3))) {
            return NOT_FOUND;
        }
        switch (what) {
            case 0:
                return frame.kind;
            case 1:
                return frame.file;
            case 2:
                return frame.first;
            case 3:
                return frame.last;
            default:
                return frame.receivers;
        }
    }

    public int total(int what) {
        if (!within(what, 0, TOTALS - 1)) {
            return INVALID_ARGUMENT;
        }
        return satellite.counts[what];
    }

    public int stationTotal(int station, int what) {
        if (!isStation(station) || !within(what, 0, STATION_TOTALS - 1)) {
            return INVALID_ARGUMENT;
        }
        return satellite.stations[station].counts[what];
    }

    // ---- what would come

    public int ticksToComplete(int station, int file) {
        if (!isStation(station) || !files.isStored(file)) {
            return INVALID_ARGUMENT;
        }
        if (satellite.stations[station].bytesOf(file) == null) {
            return NOT_POSSIBLE;
        }
        imagined.copyFrom(satellite);
        for (int ticks = 0; ticks <= MAX_TICKS_TO_COMPLETE; ticks++) {
            if (imagined.isComplete(station, file)) {
                return ticks;
            }
            // What forbids a request in a simulation is just what makes this call answer an error.
            imagined.askFile(station, file);
            imagined.tick();
        }
        return NOT_FOUND;
    }

    public int ticksToEmpty() {
        imagined.copyFrom(satellite);
        int ticks = 0;
        while (imagined.queue.length > 0 && ticks < MAX_TICKS_TO_EMPTY) {
            imagined.tick();
            ticks++;
        }
        return ticks;
    }

    private boolean isStation(int station) {
        return station >= 0 && station < satellite.stationCount;
    }

    private static boolean within(int value, int least, int greatest) {
        return value >= least && value <= greatest;
    }

    /** A list of intervals, ascending and merged. */
    private static final class Intervals {
        final int[] begins = new int[MAX_INTERVALS];
        final int[] ends = new int[MAX_INTERVALS];
        int count;

        void clear() {
            count = 0;
        }

        void copyFrom(Intervals other) {
            count = other.count;
            for (int i = 0; i < count; i++) {
                begins[i] = other.begins[i];
                ends[i] = other.ends[i];
            }
        }

        /** How many integers the list contains. */
        int size() {
            int sum = 0;
            for (int i = 0; i < count; i++) {
                sum += ends[i] - begins[i] + 1;
            }
            return sum;
        }

        /** How many integers of [begin, end] the list contains. */
        int overlap(int begin, int end) {
            int sum = 0;
            for (int i = 0; i < count; i++) {
                int common = Math.min(end, ends[i]) - Math.max(begin, begins[i]) + 1;
                sum += Math.max(common, 0);
            }
            return sum;
        }

        /** Answers false, and adds nothing, if the list would grow too long. */
        boolean add(int begin, int end) {
            int first = 0;
            while (first < count && ends[first] + 1 < begin) {
                first++;
            }
            int next = first;
            while (next < count && begins[next] - 1 <= end) {
                next++;
            }
            if (next == first) {
                return insert(first, begin, end);
            }
            begins[first] = Math.min(begin, begins[first]);
            ends[first] = Math.max(end, ends[next - 1]);
            removeRange(first + 1, next);
            return true;
        }

        /** Takes all integers up to last out of the first interval. */
        void cutFirst(int last) {
            if (count > 0 && last < ends[0]) {
                begins[0] = last + 1;
            } else if (count > 0) {
                removeRange(0, 1);
            }
        }

        /** The number of intervals for index -1, else the begin or the end of an interval. */
        int number(int index) {
            if (index == -1) {
                return count;
            }
            int place = index / 2;
            if (place < 0 || place >= count) {
                return NOT_FOUND;
            }
            return index % 2 == 0 ? begins[place] : ends[place];
        }

        /** The same of the holes within [0, limit]. */
        int holeNumber(int limit, int index) {
            int holes = 0;
            int begin = 0;
            for (int i = 0; i <= count; i++) {
                int end = i < count ? Math.min(begins[i] - 1, limit) : limit;
                if (begin <= end) {
                    if (index == 2 * holes) {
                        return begin;
                    }
                    if (index == 2 * holes + 1) {
                        return end;
                    }
                    holes++;
                }
                begin = i < count ? ends[i] + 1 : begin;
            }
            return index == -1 ? holes : NOT_FOUND;
        }

        private boolean insert(int place, int begin, int end) {
            if (count >= MAX_INTERVALS) {
                return false;
            }
            for (int i = count; i > place; i--) {
                begins[i] = begins[i - 1];
                ends[i] = ends[i - 1];
            }
            begins[place] = begin;
            ends[place] = end;
            count++;
            return true;
        }

        /** Removes the intervals from place to before next. */
        private void removeRange(int place, int next) {
            int removed = next - place;
            for (int i = next; i < count; i++) {
                begins[i - removed] = begins[i];
                ends[i - removed] = ends[i];
            }
            count -= removed;
        }
    }

    /** All files that have been stored, in the order of their storing, which is that of time. */
    private static final class Files {
        final int[] lengths = new int[MAX_FILES];
        final int[] seeds = new int[MAX_FILES];
        final int[] lifetimes = new int[MAX_FILES];
        final int[] storedAt = new int[MAX_FILES];
        int count;

        boolean isStored(int file) {
            return file >= 0 && file < count;
        }

        boolean exists(int file, int time) {
            return isStored(file) && time < storedAt[file] + lifetimes[file];
        }

        boolean hasStoredAt(int time) {
            return count > 0 && storedAt[count - 1] == time;
        }

        int countExisting(int time) {
            int existing = 0;
            for (int file = 0; file < count; file++) {
                if (exists(file, time)) {
                    existing++;
                }
            }
            return existing;
        }

        /** The number of the new file, or that there is no room for it. */
        int put(int length, int seed, int lifetime, int time) {
            if (count >= MAX_FILES) {
                return CAPACITY_EXCEEDED;
            }
            lengths[count] = length;
            seeds[count] = seed;
            lifetimes[count] = lifetime;
            storedAt[count] = time;
            count++;
            return count - 1;
        }

        int byteAt(int file, int index) {
            if (!isStored(file)) {
                return NOT_FOUND;
            }
            return (seeds[file] + 31 * index + index * index / 7) % 256;
        }

        /** The file existing at now that was stored first at least at the given time. */
        int firstStoredFrom(int least, int now) {
            for (int file = 0; file < count; file++) {
                if (storedAt[file] >= least && exists(file, now)) {
                    return file;
                }
            }
            return NO_FILE;
        }

        /** The greatest time before the given one at which a file existing at now was stored. */
        int lastStoringBefore(int time, int now) {
            int greatest = -1;
            for (int file = 0; file < count; file++) {
                if (storedAt[file] < time && exists(file, now)) {
                    greatest = storedAt[file];
                }
            }
            return greatest;
        }
    }

    /** What was sent at a tick. */
    private static final class Frame {
        boolean isSent;
        int kind = IDLE;
        int file = NO_FILE;
        int first;
        int last;
        int receivers;

        void fill(int newKind, int newFile, int newFirst, int newLast) {
            isSent = true;
            kind = newKind;
            file = newFile;
            first = newFirst;
            last = newLast;
            receivers = 0;
        }
    }

    private static final class Station {
        final int number;
        int period;
        int offset;
        int duration;
        int priority;
        int loss;
        int knownFiles;
        final Intervals times = new Intervals();
        final int[] openFiles = new int[MAX_OPEN];
        final Intervals[] openBytes = new Intervals[MAX_OPEN];
        final int[] counts = new int[STATION_TOTALS];

        Station(int number) {
            this.number = number;
            for (int i = 0; i < MAX_OPEN; i++) {
                openFiles[i] = NO_FILE;
                openBytes[i] = new Intervals();
            }
        }

        void copyFrom(Station other) {
            period = other.period;
            offset = other.offset;
            duration = other.duration;
            priority = other.priority;
            loss = other.loss;
            knownFiles = other.knownFiles;
            times.copyFrom(other.times);
            for (int i = 0; i < MAX_OPEN; i++) {
                openFiles[i] = other.openFiles[i];
                openBytes[i].copyFrom(other.openBytes[i]);
            }
            for (int i = 0; i < STATION_TOTALS; i++) {
                counts[i] = other.counts[i];
            }
        }

        boolean sees(int time) {
            return time >= offset && phaseAt(time) < duration;
        }

        int firstSight(int time) {
            if (time < offset) {
                return offset;
            }
            int phase = phaseAt(time);
            return phase < duration ? time : time - phase + period;
        }

        boolean isHit(int time) {
            // The square of the remainder has the remainder of the square, and fits into a long.
            long x = (7919L * time + 613L * number + 1) % 65521;
            return x * x % 65521 % 1000 < loss;
        }

        boolean knows(int file) {
            return (knownFiles >> file & 1) == 1;
        }

        int countOpen() {
            int open = 0;
            for (int i = 0; i < MAX_OPEN; i++) {
                if (openFiles[i] != NO_FILE) {
                    open++;
                }
            }
            return open;
        }

        /** The received bytes of a file, null if it is not open. */
        Intervals bytesOf(int file) {
            int place = placeOf(file);
            return file == NO_FILE || place < 0 ? null : openBytes[place];
        }

        /** Answers false if all places are taken. */
        boolean beginFile(int file) {
            int place = placeOf(NO_FILE);
            if (place < 0) {
                return false;
            }
            openFiles[place] = file;
            openBytes[place].clear();
            return true;
        }

        void endFile(int file) {
            int place = placeOf(file);
            if (place >= 0) {
                openFiles[place] = NO_FILE;
            }
        }

        void take(Frame frame) {
            counts[FRAMES_RECEIVED]++;
            if (frame.kind == FILE) {
                takeBytes(frame);
            } else if (frame.kind == DIRECTORY) {
                takeEntry(frame);
            }
        }

        private void takeBytes(Frame frame) {
            Intervals bytes = bytesOf(frame.file);
            if (bytes == null) {
                return;
            }
            int repeated = bytes.overlap(frame.first, frame.last);
            counts[BYTES_REPEATED] += repeated;
            if (bytes.add(frame.first, frame.last)) {
                counts[BYTES_ADDED] += frame.last - frame.first + 1 - repeated;
            }
        }

        private void takeEntry(Frame frame) {
            if (frame.file != NO_FILE) {
                knownFiles |= 1 << frame.file;
            }
            times.add(frame.first, frame.last);
        }

        /** How long before the time, which is at least the offset, a pass last began. */
        private int phaseAt(int time) {
            return period > 0 ? (time - offset) % period : 0;
        }

        private int placeOf(int file) {
            for (int i = 0; i < MAX_OPEN; i++) {
                if (openFiles[i] == file) {
                    return i;
                }
            }
            return -1;
        }
    }

    private static final class Request {
        int station;
        int file = NO_FILE;
        /** Frames of its turn still to come; above 0 only while it has the turn. */
        int framesLeft;
        final Intervals holes = new Intervals();

        boolean isForDirectory() {
            return file == NO_FILE;
        }

        void begin(int newStation, int newFile) {
            station = newStation;
            file = newFile;
            framesLeft = 0;
            holes.clear();
        }

        void copyFrom(Request other) {
            station = other.station;
            file = other.file;
            framesLeft = other.framesLeft;
            holes.copyFrom(other.holes);
        }
    }

    /** The transmit queue; the requests behind its length are spare ones. */
    private static final class Queue {
        final Request[] requests = new Request[MAX_REQUESTS];
        int length;

        Queue() {
            for (int i = 0; i < MAX_REQUESTS; i++) {
                requests[i] = new Request();
            }
        }

        void copyFrom(Queue other) {
            length = other.length;
            for (int i = 0; i < length; i++) {
                requests[i].copyFrom(other.requests[i]);
            }
        }

        int placeOf(int station) {
            for (int i = 0; i < length; i++) {
                if (requests[i].station == station) {
                    return i;
                }
            }
            return -1;
        }

        /** The place of the request to be sent, -1 if there is none. */
        int placeToSend() {
            int directoryPlace = -1;
            for (int i = length - 1; i >= 0; i--) {
                if (requests[i].framesLeft > 0) {
                    return i;
                }
                if (requests[i].isForDirectory()) {
                    directoryPlace = i;
                }
            }
            if (directoryPlace >= 0) {
                return directoryPlace;
            }
            return length > 0 ? 0 : -1;
        }

        /** Puts a request without holes at the end; null if the queue is full. */
        Request put(int station, int file) {
            if (length >= MAX_REQUESTS) {
                return null;
            }
            Request request = requests[length];
            request.begin(station, file);
            length++;
            return request;
        }

        void moveToEnd(int place) {
            if (place < 0 || place >= length) {
                return;
            }
            Request moved = requests[place];
            for (int i = place; i < length - 1; i++) {
                requests[i] = requests[i + 1];
            }
            requests[length - 1] = moved;
        }

        void remove(int place) {
            if (place >= 0 && place < length) {
                moveToEnd(place);
                length--;
            }
        }
    }

    /** All that a tick changes. */
    private static final class Satellite {
        final Files files;
        final Station[] stations = new Station[MAX_STATIONS];
        int stationCount;
        final Queue queue = new Queue();
        final Frame frame = new Frame();
        final int[] counts = new int[TOTALS];
        int now;

        Satellite(Files files) {
            this.files = files;
            for (int i = 0; i < MAX_STATIONS; i++) {
                stations[i] = new Station(i);
            }
        }

        /** The last frame stays behind: every tick writes it anew. */
        void copyFrom(Satellite other) {
            now = other.now;
            stationCount = other.stationCount;
            for (int i = 0; i < stationCount; i++) {
                stations[i].copyFrom(other.stations[i]);
            }
            queue.copyFrom(other.queue);
            for (int i = 0; i < TOTALS; i++) {
                counts[i] = other.counts[i];
            }
        }

        int admit(int period, int offset, int duration, int priority) {
            if (stationCount >= MAX_STATIONS) {
                return CAPACITY_EXCEEDED;
            }
            Station station = stations[stationCount];
            station.period = period;
            station.offset = offset;
            station.duration = duration;
            station.priority = priority;
            stationCount++;
            return station.number;
        }

        boolean isComplete(int station, int file) {
            Intervals bytes = stations[station].bytesOf(file);
            return bytes != null && bytes.size() == files.lengths[file];
        }

        int askDirectory(int station) {
            Intervals times = stations[station].times;
            if (!mayAsk(station) || times.holeNumber(now, -1) == 0) {
                return NOT_POSSIBLE;
            }
            return putFirstHoles(station, NO_FILE, times, now);
        }

        int askFile(int station, int file) {
            Intervals bytes = stations[station].bytesOf(file);
            if (bytes == null || !files.exists(file, now) || isComplete(station, file)
                    || !mayAsk(station)) {
                return NOT_POSSIBLE;
            }
            return putFirstHoles(station, file, bytes, files.lengths[file] - 1);
        }

        int askHoles(int station, int file, Intervals holes) {
            if (file != NO_FILE && !files.exists(file, now)) {
                return NOT_POSSIBLE;
            }
            int limit = file == NO_FILE ? now : files.lengths[file] - 1;
            int lastEnd = holes.number(2 * holes.count - 1);
            if (lastEnd > limit || !mayAsk(station)) {
                return NOT_POSSIBLE;
            }
            Request request = queue.put(station, file);
            if (request == null) {
                return CAPACITY_EXCEEDED;
            }
            request.holes.copyFrom(holes);
            return queue.length;
        }

        void tick() {
            dropRequests();
            int place = queue.placeToSend();
            if (place < 0) {
                frame.fill(IDLE, NO_FILE, 0, 0);
                counts[IDLE_FRAMES]++;
                deliver();
            } else {
                send(queue.requests[place]);
                deliver();
                settle(place);
            }
            now++;
        }

        private boolean mayAsk(int station) {
            return stations[station].sees(now) && queue.placeOf(station) < 0;
        }

        private int putFirstHoles(int station, int file, Intervals received, int limit) {
            Request request = queue.put(station, file);
            if (request == null) {
                return CAPACITY_EXCEEDED;
            }
            int holes = Math.min(received.holeNumber(limit, -1), MAX_HOLES);
            for (int i = 0; i < holes; i++) {
                int begin = received.holeNumber(limit, 2 * i);
                request.holes.add(begin, received.holeNumber(limit, 2 * i + 1));
            }
            return queue.length;
        }

        private void dropRequests() {
            for (int i = queue.length - 1; i >= 0; i--) {
                Request request = queue.requests[i];
                boolean hasFile = request.isForDirectory() || files.exists(request.file, now);
                if (!hasFile || !stations[request.station].sees(now)) {
                    queue.remove(i);
                    counts[REQUESTS_DROPPED]++;
                }
            }
        }

        private void send(Request request) {
            if (request.framesLeft == 0) {
                request.framesLeft = 1 + stations[request.station].priority;
            }
            request.framesLeft--;
            if (request.isForDirectory()) {
                sendEntry(request.holes);
                counts[DIRECTORY_FRAMES]++;
            } else {
                sendBytes(request.file, request.holes);
                counts[FILE_FRAMES]++;
            }
        }

        private void sendBytes(int file, Intervals holes) {
            int first = holes.begins[0];
            int last = Math.min(holes.ends[0], first + BLOCK - 1);
            frame.fill(FILE, file, first, last);
            holes.cutFirst(last);
        }

        private void sendEntry(Intervals holes) {
            int first = holes.begins[0];
            int last = holes.ends[0];
            int file = files.firstStoredFrom(first, now);
            if (file != NO_FILE && files.storedAt[file] <= last) {
                int stored = files.storedAt[file];
                frame.fill(DIRECTORY, file, files.lastStoringBefore(stored, now) + 1, stored);
                holes.cutFirst(stored);
            } else {
                frame.fill(DIRECTORY, NO_FILE, files.lastStoringBefore(first, now) + 1, last);
                holes.cutFirst(last);
            }
        }

        private void deliver() {
            for (int i = 0; i < stationCount; i++) {
                Station station = stations[i];
                if (!station.sees(now)) {
                    continue;
                }
                if (station.isHit(now)) {
                    station.counts[FRAMES_LOST]++;
                } else {
                    frame.receivers |= 1 << i;
                    station.take(frame);
                }
            }
        }

        /** What becomes of a request of which a frame has been sent. */
        private void settle(int place) {
            Request request = queue.requests[place];
            if (request.holes.count == 0) {
                queue.remove(place);
                counts[REQUESTS_DONE]++;
            } else if (request.framesLeft == 0) {
                queue.moveToEnd(place);
            }
        }
    }

    /** The text, and what its last reading has found. */
    private static final class RequestText {
        final char[] characters = new char[MAX_TEXT];
        int length;
        /** Where the reading stands: at the fault if it stopped there. */
        int position;
        int file = NO_FILE;
        final Intervals holes = new Intervals();
        private int lastNumber;

        /** Answers false if the text is full. */
        boolean append(char character) {
            if (length >= MAX_TEXT) {
                return false;
            }
            characters[length] = character;
            length++;
            return true;
        }

        /** Answers whether the text has no fault. */
        boolean read() {
            position = 0;
            file = NO_FILE;
            holes.clear();
            return readSubject() && skip(':') && readHoles() && skip(';') && position == length;
        }

        private boolean readSubject() {
            if (skip('d')) {
                return true;
            }
            if (!skip('f') || !readNumber(0)) {
                return false;
            }
            file = lastNumber;
            return true;
        }

        private boolean readHoles() {
            int least = 0;
            for (int i = 0; i < MAX_HOLES; i++) {
                if (!readNumber(least)) {
                    return false;
                }
                int begin = lastNumber;
                if (skip('-') && !readNumber(begin)) {
                    return false;
                }
                holes.add(begin, lastNumber);
                least = lastNumber + 2;
                if (i == MAX_HOLES - 1 || !skip(',')) {
                    return true;
                }
            }
            return true;
        }

        private boolean skip(char wanted) {
            if (position >= length || characters[position] != wanted) {
                return false;
            }
            position++;
            return true;
        }

        private boolean readNumber(int least) {
            int start = position;
            int value = 0;
            while (position < length && position < start + MAX_DIGITS && isDigit(position)) {
                value = 10 * value + (characters[position] - '0');
                position++;
            }
            if (position == start) {
                return false;
            }
            if (value < least) {
                position = start;
                return false;
            }
            lastNumber = value;
            return true;
        }

        private boolean isDigit(int place) {
            return characters[place] >= '0' && characters[place] <= '9';
        }
    }
}
