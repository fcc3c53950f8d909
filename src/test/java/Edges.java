import java.util.List;

/** Scenes at the edges, and calls that are refused or change nothing, for several tests. */
final class Edges {
    static final Class<?> BOUNDS = IndexOutOfBoundsException.class;
    static final Class<?> ARGUMENT = IllegalArgumentException.class;
    static final Class<?> STATE = IllegalStateException.class;

    private Edges() {
    }

    /** Makes a ring by the same calls each time, as an object is good for 512 calls only. */
    interface Scene {
        PodGuideway make();
    }

    interface Call {
        long on(PodGuideway x);
    }

    /** The answer of a call, or the very class of what it throws. */
    static String answer(PodGuideway x, Call call) {
        try {
            return Long.toString(call.on(x));
        } catch (RuntimeException e) {
            return e.getClass().getName();
        }
    }

    /** The call throws this exception, and everything that can be asked answers as before. */
    static void refused(String what, Class<?> want, Scene scene, Call call) {
        Check.due(what + " throws", answer(scene.make(), call), want.getName());
        changesNothing(what, scene, call);
    }

    static void changesNothing(String what, Scene scene, Call call) {
        List<String> before = Everything.of(scene);
        List<String> after = Everything.of(() -> {
            PodGuideway x = scene.make();
            answer(x, call);
            return x;
        });
        Check.due(what + " changes nothing", firstChange(before, after), "nothing");
    }

    private static String firstChange(List<String> before, List<String> after) {
        for (int i = 0; i < before.size() && i < after.size(); i++) {
            if (!before.get(i).equals(after.get(i))) {
                return before.get(i) + " before, " + after.get(i) + " after";
            }
        }
        return before.size() == after.size() ? "nothing" : "what can be asked";
    }

    // ---- scenes that several tests look at

    static PodGuideway empty() {
        return new PodGuideway();
    }

    /** Six stations, at both ends of the ring too, and nothing else. */
    static PodGuideway sixStations() {
        return Check.ring(0, 4, 8, 12, 16, 23);
    }

    /** Six stations, twelve idle pods in all berths of stations 0 to 3. */
    static PodGuideway twelveIdle() {
        PodGuideway x = sixStations();
        for (int made = 0; made < 12; made++) {
            x.pod(made / 3);
        }
        return x;
    }

    /** Two stations, and three idle pods in the berths of the first one. */
    static PodGuideway threeIdle() {
        PodGuideway x = Check.ring(0, 7);
        x.pod(0);
        x.pod(0);
        x.pod(0);
        return x;
    }

    /** All twelve pods are in slots, empty and with goals far off; nobody waits. */
    static PodGuideway fullRing() {
        PodGuideway x = twelveIdle();
        for (int pod = 0; pod < 12; pod++) {
            x.send(pod, pod < 3 ? 5 : pod / 3 - 1);
        }
        x.pass(3);
        return x;
    }

    /** All stations, pods and riders that there may be: 9 wait everywhere, no pod is idle. */
    static PodGuideway allFull() {
        PodGuideway x = fullRing();
        for (int rider = 0; rider < 9; rider++) {
            for (int station = 0; station < 6; station++) {
                x.ride(station, (station + 1 + rider % 5) % 6);
            }
        }
        return x;
    }

    /** Nine riders wait at station 0, two stations, no pod. */
    static PodGuideway nineWait() {
        PodGuideway x = Check.ring(0, 7);
        for (int rider = 0; rider < 9; rider++) {
            x.ride(0, 1);
        }
        return x;
    }

    /**
     * Pod 0, with a rider, is at place 0, and comes to station 1, next to it, in the next
     * minute; three idle pods fill the berths there.
     */
    static PodGuideway barredNext() {
        PodGuideway x = Check.ring(0, 1);
        x.pod(0);
        x.ride(0, 1);
        x.pass(1);
        x.pod(1);
        x.pod(1);
        x.pod(1);
        return x;
    }
}
