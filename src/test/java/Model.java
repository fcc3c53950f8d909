import java.util.ArrayList;
import java.util.List;

/**
 * The document once more, written in another way than the class: riders and pods are objects,
 * riders count their minutes, and a look ahead does all calls again on a new model.
 */
final class Model {
    static final class Rider {
        final Station to;
        int waited;
        boolean arrived;

        Rider(Station to) {
            this.to = to;
        }
    }

    static final class Station {
        final int number;
        final int place;
        final Pod[] berths = new Pod[3];
        final List<Rider> queue = new ArrayList<>();
        int arrived;

        Station(int number, int place) {
            this.number = number;
            this.place = place;
        }

        int freeBerth() {
            for (int b = 0; b < 3; b++) {
                if (berths[b] == null) {
                    return b;
                }
            }
            return -1;
        }

        Pod firstIdle() {
            for (Pod pod : berths) {
                if (pod != null && pod.goal == null) {
                    return pod;
                }
            }
            return null;
        }

        int waited() {
            int sum = 0;
            for (Rider rider : queue) {
                sum += rider.waited;
            }
            return sum;
        }
    }

    static final class Pod {
        final int number;
        int place = -1;
        Station at;
        int berth = -1;
        Station goal;
        Rider rider;
        int barred;
        int wentOff;

        Pod(int number) {
            this.number = number;
        }

        void stand(Station station, int b) {
            place = -1;
            at = station;
            berth = b;
            station.berths[b] = this;
        }
    }

    final List<int[]> log = new ArrayList<>();
    final List<Station> stations = new ArrayList<>();
    final List<Pod> pods = new ArrayList<>();
    int minute;
    int answered;
    int waitedByBoarded;

    // What the calls of the face answer. The numbers are those of their order in the document.
    static final int BUILD = 0;
    static final int POD = 1;
    static final int RIDE = 2;
    static final int SEND = 3;
    static final int TOLD = 4;
    static final int STATION = 5;
    static final int WAITS = 6;
    static final int SLOT = 7;
    static final int COUNT = 8;
    static final int PASS = 9;
    static final int WHEN = 10;
    static final int TAKES = 11;
    static final int ANSWERS = 12;
    static final int FORESEE = 13;
    static final int MEAN = 14;
    static final int DIGEST = 15;
    static final int CALLS = 16;

    static final String BOUNDS = "IndexOutOfBoundsException";
    static final String ARGUMENT = "IllegalArgumentException";
    static final String STATE = "IllegalStateException";

    String call(int which, int a, int b) {
        switch (which) {
            case BUILD: return build(a);
            case POD: return pod(a);
            case RIDE: return ride(a, b);
            case SEND: return send(a, b);
            case TOLD: return !isPod(a) || b < 0 || b > 5 ? BOUNDS : text(told(pods.get(a), b));
            case STATION:
                return !isStation(a) || b < 0 || b > 6 ? BOUNDS : text(station(stations.get(a), b));
            case WAITS:
                return !isStation(a) || b < 0 || b >= stations.get(a).queue.size()
                        ? BOUNDS : text(waits(stations.get(a).queue.get(b)));
            case SLOT: return a < 0 || a > 23 ? BOUNDS : text(slot(a));
            case COUNT: return a < 0 || a > 8 ? BOUNDS : text(count(a));
            case PASS: return a < 1 || a > 100 ? ARGUMENT : text(pass(a));
            case WHEN: return !isPod(a) ? BOUNDS : text(when(a, 200));
            case TAKES:
                return !isStation(a) || !isStation(b) ? BOUNDS
                        : a == b ? ARGUMENT : text(takes(a, b, 200));
            case ANSWERS: return !isStation(a) ? BOUNDS : text(number(answering(stations.get(a))));
            case FORESEE:
                return a < 1 || a > 100 ? ARGUMENT : b < 3 || b > 7 ? BOUNDS : text(foresee(a, b));
            case MEAN: return Double.toString(mean());
            default: return Long.toString(digest());
        }
    }

    private static String text(int number) {
        return Integer.toString(number);
    }

    private boolean isStation(int s) {
        return s >= 0 && s < stations.size();
    }

    private boolean isPod(int p) {
        return p >= 0 && p < pods.size();
    }

    private String build(int place) {
        if (place < 0 || place > 23) {
            return BOUNDS;
        }
        if (stations.size() == 6) {
            return STATE;
        }
        for (Station station : stations) {
            if (station.place == place) {
                return STATE;
            }
        }
        stations.add(new Station(stations.size(), place));
        log.add(new int[] {BUILD, place, 0});
        return text(stations.size() - 1);
    }

    private String pod(int s) {
        if (!isStation(s)) {
            return BOUNDS;
        }
        int berth = stations.get(s).freeBerth();
        if (pods.size() == 12 || berth < 0) {
            return STATE;
        }
        Pod pod = new Pod(pods.size());
        pods.add(pod);
        pod.stand(stations.get(s), berth);
        log.add(new int[] {POD, s, 0});
        return text(pod.number);
    }

    private String ride(int from, int to) {
        if (!isStation(from) || !isStation(to)) {
            return BOUNDS;
        }
        if (from == to) {
            return ARGUMENT;
        }
        List<Rider> queue = stations.get(from).queue;
        if (queue.size() == 9) {
            return STATE;
        }
        queue.add(new Rider(stations.get(to)));
        log.add(new int[] {RIDE, from, to});
        return text(queue.size());
    }

    private String send(int p, int s) {
        if (!isPod(p) || !isStation(s)) {
            return BOUNDS;
        }
        Pod pod = pods.get(p);
        if (pod.at == null || pod.goal != null || pod.at.number == s) {
            return STATE;
        }
        pod.goal = stations.get(s);
        log.add(new int[] {SEND, p, s});
        return text(placesOn(pod.at, pod.goal));
    }

    private static int placesOn(Station from, Station to) {
        int place = from.place;
        int steps = 0;
        while (place != to.place) {
            place = place == 23 ? 0 : place + 1;
            steps++;
        }
        return steps;
    }

    private static int number(Station station) {
        return station == null ? -1 : station.number;
    }

    private static int told(Pod pod, int what) {
        switch (what) {
            case 0: return pod.place;
            case 1: return number(pod.at);
            case 2: return pod.berth;
            case 3: return number(pod.goal);
            case 4: return pod.rider != null ? 1 : 0;
            default: return pod.barred;
        }
    }

    private int emptyPodsTo(Station station) {
        int sum = 0;
        for (Pod pod : pods) {
            if (pod.goal == station && pod.rider == null) {
                sum++;
            }
        }
        return sum;
    }

    private int station(Station station, int what) {
        int inBerths = 0;
        int idle = 0;
        for (Pod pod : pods) {
            if (pod.at == station) {
                inBerths++;
                idle += pod.goal == null ? 1 : 0;
            }
        }
        switch (what) {
            case 0: return station.place;
            case 1: return inBerths;
            case 2: return idle;
            case 3: return station.queue.size();
            case 4: return emptyPodsTo(station);
            case 5: return station.waited();
            default: return station.arrived;
        }
    }

    private static int waits(Rider rider) {
        return 10 * rider.waited + rider.to.number;
    }

    private int slot(int place) {
        Pod pod = podAt(place);
        return pod == null ? -1 : pod.number;
    }

    private Pod podAt(int place) {
        for (Pod pod : pods) {
            if (pod.place == place) {
                return pod;
            }
        }
        return null;
    }

    private int count(int what) {
        int waiting = 0;
        int arrived = 0;
        for (Station station : stations) {
            waiting += station.queue.size();
            arrived += station.arrived;
        }
        int riding = 0;
        int inSlots = 0;
        for (Pod pod : pods) {
            riding += pod.rider != null ? 1 : 0;
            inSlots += pod.place >= 0 ? 1 : 0;
        }
        switch (what) {
            case 0: return minute;
            case 1: return stations.size();
            case 2: return pods.size();
            case 3: return waiting;
            case 4: return riding;
            case 5: return arrived;
            case 6: return 24 - inSlots;
            case 7: return answered;
            default: return waitedByBoarded;
        }
    }

    private int pass(int minutes) {
        int before = count(5);
        for (int m = 0; m < minutes; m++) {
            passMinute();
        }
        log.add(new int[] {PASS, minutes, 0});
        return count(5) - before;
    }

    private Model again() {
        Model model = new Model();
        for (int[] call : log) {
            model.call(call[0], call[1], call[2]);
        }
        return model;
    }

    int when(int p, int most) {
        if (pods.get(p).goal == null) {
            return -1;
        }
        Model model = again();
        Pod pod = model.pods.get(p);
        int before = pod.wentOff;
        for (int m = 1; m <= most; m++) {
            model.passMinute();
            if (pod.wentOff > before) {
                return m;
            }
        }
        return -1;
    }

    int takes(int from, int to, int most) {
        Model model = again();
        List<Rider> queue = model.stations.get(from).queue;
        if (queue.size() == 9) {
            return -1;
        }
        Rider rider = new Rider(model.stations.get(to));
        queue.add(rider);
        for (int m = 1; m <= most; m++) {
            model.passMinute();
            if (rider.arrived) {
                return m;
            }
        }
        return -1;
    }

    private Station answering(Station caller) {
        Station best = null;
        for (Station other : stations) {
            if (other != caller && other.queue.isEmpty() && other.firstIdle() != null
                    && (best == null || placesOn(other, caller) < placesOn(best, caller))) {
                best = other;
            }
        }
        return best;
    }

    private int foresee(int minutes, int what) {
        Model model = again();
        for (int m = 0; m < minutes; m++) {
            model.passMinute();
        }
        return model.count(what);
    }

    private double mean() {
        int sum = 0;
        for (Station station : stations) {
            sum += station.waited();
        }
        return count(3) == 0 ? 0.0 : sum / (double) count(3);
    }

    private long digest() {
        List<Integer> numbers = new ArrayList<>();
        for (int what = 0; what <= 8; what++) {
            numbers.add(count(what));
        }
        for (Station station : stations) {
            for (int what = 0; what <= 6; what++) {
                numbers.add(station(station, what));
            }
            for (Rider rider : station.queue) {
                numbers.add(waits(rider));
            }
        }
        for (Pod pod : pods) {
            for (int what = 0; what <= 5; what++) {
                numbers.add(told(pod, what));
            }
        }
        for (int place = 0; place <= 23; place++) {
            numbers.add(slot(place));
        }
        long d = 1399;
        for (int x : numbers) {
            d = d * 31 + x;
        }
        return d;
    }

    void passMinute() {
        for (Pod pod : pods) {
            if (pod.place >= 0) {
                pod.place = (pod.place + 1) % 24;
            }
        }
        for (Station station : stations) {
            goOff(station);
        }
        for (Station station : stations) {
            while (!station.queue.isEmpty() && station.firstIdle() != null) {
                Pod pod = station.firstIdle();
                pod.rider = station.queue.remove(0);
                pod.goal = pod.rider.to;
                waitedByBoarded += pod.rider.waited;
            }
        }
        for (Station station : stations) {
            Station helper = answering(station);
            if (station.queue.size() > emptyPodsTo(station) && helper != null) {
                helper.firstIdle().goal = station;
                answered++;
            }
        }
        for (Station station : stations) {
            merge(station);
        }
        for (Station station : stations) {
            for (Rider rider : station.queue) {
                rider.waited++;
            }
        }
        minute++;
    }

    private void goOff(Station station) {
        Pod pod = podAt(station.place);
        if (pod == null || pod.goal != station) {
            return;
        }
        int berth = station.freeBerth();
        if (berth < 0) {
            pod.barred++;
            return;
        }
        pod.stand(station, berth);
        pod.goal = null;
        pod.wentOff++;
        if (pod.rider != null) {
            pod.rider.arrived = true;
            pod.rider = null;
            station.arrived++;
        }
    }

    private void merge(Station station) {
        if (podAt(station.place) != null) {
            return;
        }
        for (Pod pod : station.berths) {
            if (pod != null && pod.goal != null) {
                station.berths[pod.berth] = null;
                pod.place = station.place;
                pod.at = null;
                pod.berth = -1;
                return;
            }
        }
    }
}
