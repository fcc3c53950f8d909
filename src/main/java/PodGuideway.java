import java.util.Arrays;

/** Personal pods on a ring of guideway. */
public final class PodGuideway {
    private static final int PLACES = 24;
    private static final int MOST_STATIONS = 6;
    private static final int BERTHS = 3;
    private static final int MOST_WAITING = 9;
    private static final int MOST_PODS = 12;
    private static final int MOST_MINUTES_PASSED = 100;
    private static final int MOST_MINUTES_AHEAD = 200;

    private static final int TOLD_OF_POD = 6;
    private static final int TOLD_OF_STATION = 7;
    private static final int COUNTED = 9;
    private static final int FIRST_FORESEEN = 3;
    private static final int LAST_FORESEEN = 7;

    private static final int NONE = -1;

    private static final int FREE = 0;
    private static final int IDLE = 1;
    private static final int READY = 2;

    private final Ring now;
    // Kept from call to call, so that a look ahead makes no new rows.
    private final Ring ahead;

    public PodGuideway() {
        now = new Ring();
        ahead = new Ring();
    }

    // ---- stations, pods, riders

    public int build(int place) throws IndexOutOfBoundsException, IllegalStateException {
        needPlace(place);
        if (now.stations >= MOST_STATIONS) {
            throw new IllegalStateException("there are 6 stations");
        }
        if (now.stationAtPlace(place) != NONE) {
            throw new IllegalStateException("a station is there");
        }
        return now.addStation(place);
    }

    public int pod(int station) throws IndexOutOfBoundsException, IllegalStateException {
        needStation(station);
        if (now.pods >= MOST_PODS) {
            throw new IllegalStateException("there are 12 pods");
        }
        if (now.firstBerth(station, FREE) == NONE) {
            throw new IllegalStateException("no berth is free");
        }
        return now.addPod(station);
    }

    public int ride(int from, int to)
            throws IndexOutOfBoundsException, IllegalArgumentException, IllegalStateException {
        needTwoStations(from, to);
        if (now.waitingAt(from) >= MOST_WAITING) {
            throw new IllegalStateException("9 riders wait there");
        }
        now.addRider(from, to);
        return now.waitingAt(from);
    }

    public int send(int pod, int station) throws IndexOutOfBoundsException, IllegalStateException {
        needPod(pod);
        needStation(station);
        int berth = now.berthOf(pod);
        if (berth == NONE || now.goalOf(pod) != NONE) {
            throw new IllegalStateException("the pod is not idle");
        }
        int from = berth / BERTHS;
        if (from == station) {
            throw new IllegalStateException("the pod is there");
        }
        now.setGoal(pod, station);
        return now.placesOn(from, station);
    }

    // ---- what is there

    public int told(int pod, int what) throws IndexOutOfBoundsException {
        needPod(pod);
        needWhat(what, 0, TOLD_OF_POD - 1);
        return now.tellPod(pod, what);
    }

    public int station(int station, int what) throws IndexOutOfBoundsException {
        needStation(station);
        needWhat(what, 0, TOLD_OF_STATION - 1);
        return now.tellStation(station, what);
    }

    public int waits(int station, int rider) throws IndexOutOfBoundsException {
        needStation(station);
        if (rider < 0 || rider >= now.waitingAt(station)) {
            throw new IndexOutOfBoundsException("no such rider");
        }
        return now.tellRider(station, rider);
    }

    public int slot(int place) throws IndexOutOfBoundsException {
        needPlace(place);
        return now.podAtPlace(place);
    }

    public int count(int what) throws IndexOutOfBoundsException {
        needWhat(what, 0, COUNTED - 1);
        return now.tellCount(what);
    }

    // ---- minutes and what would be

    public int pass(int minutes) throws IllegalArgumentException {
        needMinutes(minutes);
        int before = now.arrivedInAll();
        for (int passed = 0; passed < minutes; passed++) {
            now.passMinute();
        }
        return now.arrivedInAll() - before;
    }

    public int when(int pod) throws IndexOutOfBoundsException {
        needPod(pod);
        int goal = now.goalOf(pod);
        if (goal == NONE) {
            return NONE;
        }
        ahead.copyFrom(now);
        for (int minute = 1; minute <= MOST_MINUTES_AHEAD; minute++) {
            ahead.passMinute();
            // A pod loses its goal only by going off there, and what it is given at that
            // station in the same minute is another goal.
            if (ahead.goalOf(pod) != goal) {
                return minute;
            }
        }
        return NONE;
    }

    public int takes(int from, int to) throws IndexOutOfBoundsException, IllegalArgumentException {
        needTwoStations(from, to);
        if (now.waitingAt(from) >= MOST_WAITING) {
            return NONE;
        }
        ahead.copyFrom(now);
        int rider = ahead.addRider(from, to);
        for (int minute = 1; minute <= MOST_MINUTES_AHEAD; minute++) {
            ahead.passMinute();
            if (!ahead.isUnderWay(from, rider)) {
                return minute;
            }
        }
        return NONE;
    }

    public int answers(int station) throws IndexOutOfBoundsException {
        needStation(station);
        return now.stationThatAnswers(station);
    }

    public int foresee(int minutes, int what)
            throws IllegalArgumentException, IndexOutOfBoundsException {
        needMinutes(minutes);
        needWhat(what, FIRST_FORESEEN, LAST_FORESEEN);
        ahead.copyFrom(now);
        for (int passed = 0; passed < minutes; passed++) {
            ahead.passMinute();
        }
        return ahead.tellCount(what);
    }

    public double mean() {
        int waiting = now.waitingInAll();
        if (waiting <= 0) {
            return 0.0;
        }
        return (double) now.waitedInAll() / (double) waiting;
    }

    public long digest() {
        long d = 1399L;
        for (int what = 0; what < COUNTED; what++) {
            d = d * 31L + now.tellCount(what);
        }
        for (int station = 0; station < now.stations; station++) {
            d = mixStation(d, station);
        }
        for (int pod = 0; pod < now.pods; pod++) {
            for (int what = 0; what < TOLD_OF_POD; what++) {
                d = d * 31L + now.tellPod(pod, what);
            }
        }
        for (int place = 0; place < PLACES; place++) {
            d = d * 31L + now.podAtPlace(place);
        }
        return d;
    }

    private long mixStation(long start, int station) {
        long d = start;
        for (int what = 0; what < TOLD_OF_STATION; what++) {
            d = d * 31L + now.tellStation(station, what);
        }
        int waiting = now.waitingAt(station);
        for (int rider = 0; rider < waiting; rider++) {
            d = d * 31L + now.tellRider(station, rider);
        }
        return d;
    }

    private void needPlace(int place) {
        if (place < 0 || place >= PLACES) {
            throw new IndexOutOfBoundsException("no such place");
        }
    }

    private void needStation(int station) {
        if (station < 0 || station >= now.stations) {
            throw new IndexOutOfBoundsException("no such station");
        }
    }

    private void needTwoStations(int from, int to) {
        needStation(from);
        needStation(to);
        if (from == to) {
            throw new IllegalArgumentException("both stations are the same");
        }
    }

    private void needPod(int pod) {
        if (pod < 0 || pod >= now.pods) {
            throw new IndexOutOfBoundsException("no such pod");
        }
    }

    private void needWhat(int what, int first, int last) {
        if (what < first || what > last) {
            throw new IndexOutOfBoundsException("nothing is told under this number");
        }
    }

    private void needMinutes(int minutes) {
        if (minutes < 1 || minutes > MOST_MINUTES_PASSED) {
            throw new IllegalArgumentException("minutes are not 1 to 100");
        }
    }

    /**
     * The ring as it is in one minute. Its callers have looked at stations, pods, riders and
     * places already; read and write look at every index once more, so that no row can throw.
     */
    private static final class Ring {
        private int minute;
        private int stations;
        private int pods;
        private int ridersInAll;
        private int callsAnswered;
        private int waitedBeforeBoarding;

        private final int[] podInSlot;
        // Berth b of station s stands at s * BERTHS + b; riders stand likewise.
        private final int[] podInBerth;
        private final int[] stationPlace;
        private final int[] stationArrived;
        private final int[] stationWaiting;
        private final int[] riderNumber;
        private final int[] riderGoal;
        private final int[] riderCame;
        private final int[] podGoal;
        private final int[] podRider;
        private final int[] podBarred;

        private Ring() {
            podInSlot = emptyRow(PLACES);
            podInBerth = emptyRow(MOST_STATIONS * BERTHS);
            stationPlace = new int[MOST_STATIONS];
            stationArrived = new int[MOST_STATIONS];
            stationWaiting = new int[MOST_STATIONS];
            riderNumber = new int[MOST_STATIONS * MOST_WAITING];
            riderGoal = new int[MOST_STATIONS * MOST_WAITING];
            riderCame = new int[MOST_STATIONS * MOST_WAITING];
            podGoal = emptyRow(MOST_PODS);
            podRider = emptyRow(MOST_PODS);
            podBarred = new int[MOST_PODS];
        }

        private void copyFrom(Ring other) {
            minute = other.minute;
            stations = other.stations;
            pods = other.pods;
            ridersInAll = other.ridersInAll;
            callsAnswered = other.callsAnswered;
            waitedBeforeBoarding = other.waitedBeforeBoarding;
            copyRow(other.podInSlot, podInSlot);
            copyRow(other.podInBerth, podInBerth);
            copyRow(other.stationPlace, stationPlace);
            copyRow(other.stationArrived, stationArrived);
            copyRow(other.stationWaiting, stationWaiting);
            copyRow(other.riderNumber, riderNumber);
            copyRow(other.riderGoal, riderGoal);
            copyRow(other.riderCame, riderCame);
            copyRow(other.podGoal, podGoal);
            copyRow(other.podRider, podRider);
            copyRow(other.podBarred, podBarred);
        }

        // ---- what comes new

        private int addStation(int place) {
            int station = stations;
            write(stationPlace, station, place);
            stations++;
            return station;
        }

        private int addPod(int station) {
            int added = pods;
            write(podInBerth, firstBerth(station, FREE), added);
            pods++;
            return added;
        }

        private int addRider(int from, int to) {
            int rider = ridersInAll;
            int last = from * MOST_WAITING + waitingAt(from);
            write(riderNumber, last, rider);
            write(riderGoal, last, to);
            write(riderCame, last, minute);
            write(stationWaiting, from, waitingAt(from) + 1);
            ridersInAll++;
            return rider;
        }

        private void setGoal(int pod, int station) {
            write(podGoal, pod, station);
        }

        // ---- the course of a minute

        private void passMinute() {
            moveSlots();
            for (int station = 0; station < stations; station++) {
                letGoOff(station);
            }
            for (int station = 0; station < stations; station++) {
                letBoard(station);
            }
            for (int station = 0; station < stations; station++) {
                letCall(station);
            }
            for (int station = 0; station < stations; station++) {
                letMerge(station);
            }
            minute++;
        }

        private void moveSlots() {
            int last = podInSlot.length - 1;
            if (last < 1) {
                return;
            }
            int pod = read(podInSlot, last);
            System.arraycopy(podInSlot, 0, podInSlot, 1, last);
            write(podInSlot, 0, pod);
        }

        private void letGoOff(int station) {
            int place = placeOf(station);
            int pod = podAtPlace(place);
            if (pod == NONE || goalOf(pod) != station) {
                return;
            }
            int berth = firstBerth(station, FREE);
            if (berth == NONE) {
                write(podBarred, pod, read(podBarred, pod) + 1);
                return;
            }
            write(podInSlot, place, NONE);
            write(podInBerth, berth, pod);
            setGoal(pod, NONE);
            if (read(podRider, pod) != NONE) {
                write(podRider, pod, NONE);
                write(stationArrived, station, read(stationArrived, station) + 1);
            }
        }

        private void letBoard(int station) {
            for (int berth = station * BERTHS; berth < (station + 1) * BERTHS; berth++) {
                if (waitingAt(station) > 0 && berthHolds(berth) == IDLE) {
                    boardFirst(station, read(podInBerth, berth));
                }
            }
        }

        private void boardFirst(int station, int pod) {
            int first = station * MOST_WAITING;
            write(podRider, pod, read(riderNumber, first));
            setGoal(pod, read(riderGoal, first));
            waitedBeforeBoarding += waitedBy(station, 0);
            int left = waitingAt(station) - 1;
            for (int rider = first; rider < first + left; rider++) {
                write(riderNumber, rider, read(riderNumber, rider + 1));
                write(riderGoal, rider, read(riderGoal, rider + 1));
                write(riderCame, rider, read(riderCame, rider + 1));
            }
            write(stationWaiting, station, left);
        }

        private void letCall(int station) {
            if (waitingAt(station) <= emptyPodsTo(station)) {
                return;
            }
            int answering = stationThatAnswers(station);
            if (answering == NONE) {
                return;
            }
            int called = read(podInBerth, firstBerth(answering, IDLE));
            setGoal(called, station);
            callsAnswered++;
        }

        private void letMerge(int station) {
            int place = placeOf(station);
            int berth = firstBerth(station, READY);
            if (berth == NONE || podAtPlace(place) != NONE) {
                return;
            }
            write(podInSlot, place, read(podInBerth, berth));
            write(podInBerth, berth, NONE);
        }

        // ---- what is asked of it

        private int stationAtPlace(int place) {
            for (int station = 0; station < stations; station++) {
                if (placeOf(station) == place) {
                    return station;
                }
            }
            return NONE;
        }

        private int stationThatAnswers(int caller) {
            int best = NONE;
            int fewest = PLACES;
            for (int other = 0; other < stations; other++) {
                int distance = placesOn(other, caller);
                if (other != caller && distance < fewest && waitingAt(other) == 0
                        && firstBerth(other, IDLE) != NONE) {
                    best = other;
                    fewest = distance;
                }
            }
            return best;
        }

        private int placesOn(int from, int to) {
            return Math.floorMod(placeOf(to) - placeOf(from), PLACES);
        }

        private int placeOf(int station) {
            return read(stationPlace, station);
        }

        private int waitingAt(int station) {
            return Math.max(0, read(stationWaiting, station));
        }

        private int podAtPlace(int place) {
            return read(podInSlot, place);
        }

        private int goalOf(int pod) {
            return read(podGoal, pod);
        }

        private int berthHolds(int berth) {
            int pod = read(podInBerth, berth);
            if (pod == NONE) {
                return FREE;
            }
            return read(podGoal, pod) == NONE ? IDLE : READY;
        }

        private int firstBerth(int station, int holding) {
            for (int berth = station * BERTHS; berth < (station + 1) * BERTHS; berth++) {
                if (berthHolds(berth) == holding) {
                    return berth;
                }
            }
            return NONE;
        }

        private int berthsThatHold(int station, int holding) {
            int found = 0;
            for (int berth = station * BERTHS; berth < (station + 1) * BERTHS; berth++) {
                if (berthHolds(berth) == holding) {
                    found++;
                }
            }
            return found;
        }

        private int berthOf(int pod) {
            return find(podInBerth, pod);
        }

        private int emptyPodsTo(int station) {
            int found = 0;
            for (int pod = 0; pod < pods; pod++) {
                if (goalOf(pod) == station && read(podRider, pod) == NONE) {
                    found++;
                }
            }
            return found;
        }

        private int waitedBy(int station, int rider) {
            return minute - read(riderCame, station * MOST_WAITING + rider);
        }

        private int waitedAt(int station) {
            int sum = 0;
            int waiting = waitingAt(station);
            for (int rider = 0; rider < waiting; rider++) {
                sum += waitedBy(station, rider);
            }
            return sum;
        }

        private int waitedInAll() {
            int sum = 0;
            for (int station = 0; station < stations; station++) {
                sum += waitedAt(station);
            }
            return sum;
        }

        private int waitingInAll() {
            int sum = 0;
            for (int station = 0; station < stations; station++) {
                sum += waitingAt(station);
            }
            return sum;
        }

        private int arrivedInAll() {
            int sum = 0;
            for (int station = 0; station < stations; station++) {
                sum += read(stationArrived, station);
            }
            return sum;
        }

        private int ridersInPods() {
            int found = 0;
            for (int pod = 0; pod < pods; pod++) {
                if (read(podRider, pod) != NONE) {
                    found++;
                }
            }
            return found;
        }

        private int freeSlots() {
            int found = 0;
            for (int place = 0; place < PLACES; place++) {
                if (podAtPlace(place) == NONE) {
                    found++;
                }
            }
            return found;
        }

        private boolean isUnderWay(int from, int rider) {
            for (int pod = 0; pod < pods; pod++) {
                if (read(podRider, pod) == rider) {
                    return true;
                }
            }
            int first = from * MOST_WAITING;
            int end = first + waitingAt(from);
            for (int place = first; place < end; place++) {
                if (read(riderNumber, place) == rider) {
                    return true;
                }
            }
            return false;
        }

        // ---- what it tells by numbers

        private int tellPod(int pod, int what) {
            int berth = berthOf(pod);
            switch (what) {
                case 0:
                    return find(podInSlot, pod);
                case 1:
                    return berth == NONE ? NONE : berth / BERTHS;
                case 2:
                    return berth == NONE ? NONE : berth % BERTHS;
                case 3:
                    return goalOf(pod);
                case 4:
                    return read(podRider, pod) == NONE ? 0 : 1;
                default:
                    return read(podBarred, pod);
            }
        }

        private int tellStation(int station, int what) {
            switch (what) {
                case 0:
                    return placeOf(station);
                case 1:
                    return BERTHS - berthsThatHold(station, FREE);
                case 2:
                    return berthsThatHold(station, IDLE);
                case 3:
                    return waitingAt(station);
                case 4:
                    return emptyPodsTo(station);
                case 5:
                    return waitedAt(station);
                default:
                    return read(stationArrived, station);
            }
        }

        private int tellRider(int station, int rider) {
            return 10 * waitedBy(station, rider)
                    + read(riderGoal, station * MOST_WAITING + rider);
        }

        private int tellCount(int what) {
            switch (what) {
                case 0:
                    return minute;
                case 1:
                    return stations;
                case 2:
                    return pods;
                case 3:
                    return waitingInAll();
                case 4:
                    return ridersInPods();
                case 5:
                    return arrivedInAll();
                case 6:
                    return freeSlots();
                case 7:
                    return callsAnswered;
                default:
                    return waitedBeforeBoarding;
            }
        }

        // ---- rows

        private static int[] emptyRow(int length) {
            int[] row = new int[Math.max(0, length)];
            Arrays.fill(row, NONE);
            return row;
        }

        private static int read(int[] row, int index) {
            return index >= 0 && index < row.length ? row[index] : NONE;
        }

        private static void write(int[] row, int index, int value) {
            if (index >= 0 && index < row.length) {
                row[index] = value;
            }
        }

        private static int find(int[] row, int value) {
            for (int index = 0; index < row.length; index++) {
                if (row[index] == value) {
                    return index;
                }
            }
            return NONE;
        }

        private static void copyRow(int[] from, int[] to) {
            System.arraycopy(from, 0, to, 0, Math.min(from.length, to.length));
        }
    }
}
