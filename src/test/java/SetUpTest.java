/** Promises 1 to 5: a new object, build, pod, ride and send. */
public final class SetUpTest {
    private static final Class<?> BOUNDS = IndexOutOfBoundsException.class;
    private static final Class<?> ARGUMENT = IllegalArgumentException.class;
    private static final Class<?> STATE = IllegalStateException.class;

    private SetUpTest() {
    }

    public static void main(String[] args) {
        Tests.runAll(SetUpTest.class);
    }

    @Says("Creates a ring without stations and pods, in the minute 0.")
    private static void promise1NewObject() {
        PodGuideway x = new PodGuideway();
        Check.due("counts of a new object", Check.counts(x), "0 0 0 0 0 0 24 0 0");
        for (int place = 0; place < 24; place++) {
            Check.due("new slot " + place, x.slot(place), -1);
        }
        Check.due("new mean", x.mean(), 0.0);
        Check.refused(x, "station of a new object", BOUNDS, () -> x.station(0, 0));
        Check.refused(x, "pod of a new object", BOUNDS, () -> x.told(0, 0));
        Check.refused(x, "rider of a new object", BOUNDS, () -> x.waits(0, 0));
        PodGuideway other = new PodGuideway();
        x.build(5);
        x.pod(0);
        x.pass(3);
        Check.due("objects are apart", Check.counts(other), "0 0 0 0 0 0 24 0 0");
    }

    @Says({
        "- `place`: the place of a new station",
        "Returns its number."
    })
    private static void promise2Build() {
        PodGuideway x = new PodGuideway();
        int[] places = {0, 23, 12, 1, 22, 7};
        for (int made = 0; made < places.length; made++) {
            Check.due("build " + made, x.build(places[made]), made);
            Check.due("stations after " + made, x.count(1), made + 1);
            Check.due("new station " + made, Check.station(x, made),
                    places[made] + " 0 0 0 0 0 0");
        }
        Check.due("pods are none", x.count(2), 0);
    }

    @Says({
        "Throws `IndexOutOfBoundsException` if place is not 0 to 23",
        "Throws `IllegalStateException` if there are 6, or one is there"
    })
    private static void promise2BuildRefuses() {
        PodGuideway x = Check.ring(0, 23);
        for (int place : new int[] {-1, 24, 100, Integer.MIN_VALUE, Integer.MAX_VALUE}) {
            Check.refused(x, "build " + place, BOUNDS, () -> x.build(place));
        }
        Check.refused(x, "build at 0 again", STATE, () -> x.build(0));
        Check.refused(x, "build at 23 again", STATE, () -> x.build(23));
        Check.due("the next number", x.build(1), 2);
        x.build(2);
        x.build(3);
        x.build(4);
        Check.refused(x, "a seventh", STATE, () -> x.build(5));
        Check.refused(x, "a seventh where one is", STATE, () -> x.build(4));
        Check.refused(x, "a seventh at no place", BOUNDS, () -> x.build(24));
    }

    @Says({
        "A new pod, idle, in the free berth of a station with the smallest number.",
        "- `station`: the station",
        "Returns its number."
    })
    private static void promise3Pod() {
        PodGuideway x = Check.ring(4, 9);
        Check.due("first pod", x.pod(1), 0);
        Check.due("first pod told", Check.told(x, 0), "-1 1 0 -1 0 0");
        Check.due("second pod", x.pod(0), 1);
        Check.due("second pod told", Check.told(x, 1), "-1 0 0 -1 0 0");
        Check.due("third pod", x.pod(1), 2);
        Check.due("third pod told", Check.told(x, 2), "-1 1 1 -1 0 0");
        Check.due("fourth pod", x.pod(1), 3);
        Check.due("fourth pod told", Check.told(x, 3), "-1 1 2 -1 0 0");
        x.send(2, 0);
        x.pass(1);
        Check.due("pod for the berth between", x.pod(1), 4);
        Check.due("pod for the berth between told", Check.told(x, 4), "-1 1 1 -1 0 0");
        Check.due("pods", x.count(2), 5);
    }

    @Says({
        "Throws `IndexOutOfBoundsException` if there is no such station",
        "Throws `IllegalStateException` if there are 12, or no berth is free"
    })
    private static void promise3PodRefuses() {
        PodGuideway x = Check.ring(0, 1, 2, 3, 4);
        for (int station : new int[] {-1, 5, 6, Integer.MIN_VALUE, Integer.MAX_VALUE}) {
            Check.refused(x, "pod at " + station, BOUNDS, () -> x.pod(station));
        }
        for (int made = 0; made < 12; made++) {
            int station = made / 3;
            Check.due("pod " + made, x.pod(station), made);
            if (made % 3 == 2) {
                Check.refused(x, "a fourth at " + station, STATE, () -> x.pod(station));
            }
        }
        Check.refused(x, "a thirteenth", STATE, () -> x.pod(4));
        Check.refused(x, "a thirteenth nowhere", BOUNDS, () -> x.pod(5));
    }

    @Says({
        "A rider comes, and waits.",
        "- `from`: the station where this one waits",
        "- `to`: the station where this one wants to go",
        "Returns how many wait there then."
    })
    private static void promise4Ride() {
        PodGuideway x = Check.ring(4, 9, 14);
        for (int come = 1; come <= 9; come++) {
            Check.due("ride " + come, x.ride(0, come % 2 + 1), come);
        }
        Check.due("ride elsewhere", x.ride(2, 0), 1);
        Check.due("riders who wait", x.count(3), 10);
        for (int rider = 0; rider < 9; rider++) {
            Check.due("in the order of coming " + rider, x.waits(0, rider), rider % 2 == 0 ? 2 : 1);
        }
        PodGuideway y = Check.ring(4, 9);
        y.pod(0);
        y.ride(0, 1);
        Check.due("a rider waits though a pod is idle", Check.station(y, 0), "4 1 1 1 0 0 0");
    }

    @Says({
        "Throws `IndexOutOfBoundsException` if there is no such station",
        "Throws `IllegalArgumentException` if both are the same",
        "Throws `IllegalStateException` if 9 wait there"
    })
    private static void promise4RideRefuses() {
        PodGuideway x = Check.ring(4, 9);
        Check.refused(x, "ride from nowhere", BOUNDS, () -> x.ride(2, 0));
        Check.refused(x, "ride from -1", BOUNDS, () -> x.ride(-1, 0));
        Check.refused(x, "ride to nowhere", BOUNDS, () -> x.ride(0, 2));
        Check.refused(x, "ride to -1", BOUNDS, () -> x.ride(0, -1));
        Check.refused(x, "ride from nowhere to there", BOUNDS, () -> x.ride(7, 7));
        Check.refused(x, "ride far out", BOUNDS,
                () -> x.ride(Integer.MAX_VALUE, Integer.MIN_VALUE));
        Check.refused(x, "ride to the same", ARGUMENT, () -> x.ride(1, 1));
        for (int come = 0; come < 9; come++) {
            x.ride(1, 0);
        }
        Check.refused(x, "a tenth", STATE, () -> x.ride(1, 0));
        Check.refused(x, "a tenth to the same", ARGUMENT, () -> x.ride(1, 1));
        Check.refused(x, "a tenth to nowhere", BOUNDS, () -> x.ride(1, 2));
        Check.due("the other station is free for riders", x.ride(0, 1), 1);
    }

    @Says({
        "Sends an idle pod, empty, to another station.",
        "- `pod`: the pod",
        "- `station`: the station",
        "Returns how many places on it is."
    })
    private static void promise5Send() {
        PodGuideway x = Check.ring(20, 3, 21);
        x.pod(0);
        x.pod(1);
        x.pod(2);
        Check.due("send over the end of the ring", x.send(0, 1), 7);
        Check.due("sent pod told", Check.told(x, 0), "-1 0 0 1 0 0");
        Check.due("send on", x.send(1, 0), 17);
        Check.due("send all but round", x.send(2, 0), 23);
        Check.due("empty pods under way", x.station(0, 4), 2);
        Check.due("idle ones", x.station(0, 2), 0);
        Check.due("a send is no call", x.count(7), 0);
    }

    @Says({
        "Throws `IndexOutOfBoundsException` if there is no such pod or station",
        "Throws `IllegalStateException` if it is not idle, or is there"
    })
    private static void promise5SendRefuses() {
        PodGuideway x = Check.ring(4, 9);
        x.pod(0);
        x.pod(0);
        Check.refused(x, "send pod -1", BOUNDS, () -> x.send(-1, 1));
        Check.refused(x, "send pod 2", BOUNDS, () -> x.send(2, 1));
        Check.refused(x, "send to -1", BOUNDS, () -> x.send(0, -1));
        Check.refused(x, "send to 2", BOUNDS, () -> x.send(0, 2));
        Check.refused(x, "send far out", BOUNDS,
                () -> x.send(Integer.MIN_VALUE, Integer.MAX_VALUE));
        Check.refused(x, "send to where it is", STATE, () -> x.send(0, 0));
        x.send(0, 1);
        Check.refused(x, "send a ready one", STATE, () -> x.send(0, 1));
        Check.refused(x, "send a ready one back", STATE, () -> x.send(0, 0));
        Check.refused(x, "send a ready one to nowhere", BOUNDS, () -> x.send(0, 2));
        x.pass(1);
        Check.refused(x, "send one in a slot", STATE, () -> x.send(0, 0));
        x.pass(5);
        Check.due("send it when it is idle again", x.send(0, 0), 19);
        x.ride(0, 1);
        x.pass(1);
        Check.refused(x, "send one with a rider", STATE, () -> x.send(1, 1));
    }
}
