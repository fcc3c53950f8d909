/** Promise 11, pass, and the six steps of a minute. */
public final class MinuteTest {
    private static final Class<?> ARGUMENT = IllegalArgumentException.class;

    private MinuteTest() {
    }

    public static void main(String[] args) {
        Tests.runAll(MinuteTest.class);
    }

    @Says({
        "Lets minutes go by.",
        "- `minutes`: how many",
        "Returns how many riders arrive in them."
    })
    private static void promise11PassAnswersArrivals() {
        PodGuideway x = Check.ring(0, 3);
        x.pod(0);
        x.pod(0);
        x.pod(0);
        x.ride(0, 1);
        x.ride(0, 1);
        x.send(2, 1);
        Check.due("nobody has arrived", x.pass(3), 0);
        Check.due("the first arrives", x.pass(1), 1);
        Check.due("the second arrives, an empty pod does not count", x.pass(100), 1);
        Check.due("nobody rides any more", x.pass(100), 0);
        Check.due("minutes", x.count(0), 204);
        Check.due("arrived", x.count(5), 2);
    }

    @Says("Throws `IllegalArgumentException` if minutes is not 1 to 100")
    private static void promise11PassRefuses() {
        PodGuideway x = Check.ring(0, 3);
        for (int minutes : new int[] {0, -1, 101, Integer.MIN_VALUE, Integer.MAX_VALUE}) {
            Check.refused(x, "pass " + minutes, ARGUMENT, () -> x.pass(minutes));
        }
        x.pass(1);
        x.pass(100);
        Check.due("minutes", x.count(0), 101);
    }

    @Says("Lets minutes go by.")
    private static void promise11FortyMinutesAreFortyTimesOne() {
        PodGuideway x = Check.ring(0, 3, 17);
        PodGuideway y = Check.ring(0, 3, 17);
        for (PodGuideway z : new PodGuideway[] {x, y}) {
            z.pod(0);
            z.pod(1);
            z.ride(2, 0);
            z.ride(2, 1);
            z.ride(0, 2);
            z.ride(2, 1);
        }
        x.pass(40);
        for (int passed = 0; passed < 40; passed++) {
            y.pass(1);
        }
        Check.due("forty minutes or forty times one", x.digest(), y.digest());
    }

    @Says({
        "1. All slots go one place on, with their pods.",
        "whose goal this station is,"
    })
    private static void step1And2PastOtherStations() {
        PodGuideway x = Check.ring(20, 22, 1);
        x.pod(0);
        x.send(0, 2);
        x.pass(1);
        Check.due("it merges", x.told(0, 0), 20);
        x.pass(2);
        Check.due("another station lets it pass", Check.told(x, 0), "22 -1 -1 2 0 0");
        x.pass(2);
        Check.due("over the end", Check.told(x, 0), "0 -1 -1 2 0 0");
        x.pass(1);
        Check.due("it goes off at its goal", Check.told(x, 0), "-1 2 0 -1 0 0");
        Check.due("the ring is free", x.count(6), 24);
        x.pass(50);
        Check.due("an idle pod stays", Check.told(x, 0), "-1 2 0 -1 0 0");
    }

    @Says("goes off into the free berth with the smallest number,")
    private static void step2SmallestBerth() {
        PodGuideway x = Check.ring(0, 4);
        x.pod(1);
        x.pod(1);
        x.pod(1);
        x.pod(0);
        x.send(1, 0);
        x.pass(1);
        x.send(0, 0);
        x.pass(1);
        x.send(3, 1);
        x.pass(5);
        Check.due("the smallest of two free berths", Check.told(x, 3), "-1 1 0 -1 0 0");
    }

    @Says("Without a free berth it stays in its slot.")
    private static void step2FullBerths() {
        PodGuideway x = Check.ring(0, 1);
        x.pod(1);
        x.pod(1);
        x.pod(1);
        x.pod(0);
        x.ride(0, 1);
        Check.due("nobody arrives without a berth", x.pass(30), 0);
        Check.due("the rider stays in", Check.told(x, 3), "5 -1 -1 1 1 2");
        x.pod(0);
        x.send(0, 0);
        Check.due("the berth is free in time", x.pass(20), 1);
        Check.due("gone off", Check.told(x, 3), "-1 1 0 -1 0 2");
    }

    @Says("A minute goes like this:")
    private static void step2And3And5InOneMinute() {
        PodGuideway x = Check.ring(0, 3);
        x.pod(0);
        x.ride(0, 1);
        x.ride(1, 0);
        x.pass(3);
        Check.due("before it arrives", Check.told(x, 0), "2 -1 -1 1 1 0");
        Check.due("it arrives", x.pass(1), 1);
        Check.due("the next got in, and it merged", Check.told(x, 0), "3 -1 -1 0 1 0");
        Check.due("this one had waited for 3", x.count(8), 3);
    }

    @Says("3. Boarding. Stations, by numbers: as long as riders wait there, and a pod is "
            + "idle there, the first rider gets into the idle one in the berth with the "
            + "smallest number; its goal is where this rider wants to go.")
    private static void step3OrderOfBoarding() {
        PodGuideway x = Check.ring(0, 6, 12, 18);
        x.pod(0);
        x.pod(0);
        x.pod(0);
        x.send(0, 3);
        x.pass(1);
        x.ride(0, 1);
        x.ride(0, 2);
        x.ride(0, 3);
        x.pass(1);
        Check.due("the first in the smallest berth", Check.told(x, 1), "0 -1 -1 1 1 0");
        Check.due("the second in the next one", Check.told(x, 2), "-1 0 2 2 1 0");
        Check.due("the third waits", x.waits(0, 0), 13);
    }

    @Says("Nobody gets into a pod that is ready, empty or not.")
    private static void step3NobodyBoardsReadyPods() {
        PodGuideway x = Check.ring(0, 6, 12);
        x.pod(0);
        x.pod(0);
        x.send(0, 2);
        x.ride(0, 1);
        x.ride(0, 1);
        x.pass(1);
        Check.due("the ready one goes empty", Check.told(x, 0), "0 -1 -1 2 0 0");
        Check.due("the idle one has a rider", Check.told(x, 1), "-1 0 1 1 1 0");
        Check.due("one waits", x.station(0, 3), 1);
    }

    @Says("A minute goes like this:")
    private static void step4OnlyAfterAllWentOff() {
        // Pod 0 comes in at station 1 in the minute in which station 0 calls: it answers.
        PodGuideway x = Check.ring(0, 3);
        x.pod(0);
        x.send(0, 1);
        x.pass(3);
        x.ride(0, 1);
        x.pass(1);
        Check.due("called in the minute of its coming", Check.told(x, 0), "3 -1 -1 0 0 0");
        Check.due("calls", x.count(7), 1);
    }

    @Says("it is answered by that of the other stations at which a pod is idle, and nobody "
            + "waits, from which it is the fewest places on to this one; the idle pod in the "
            + "berth there with the smallest number has this station as its goal then, and is "
            + "empty.")
    private static void step4NearestAnswers() {
        PodGuideway x = Check.ring(0, 10, 20);
        x.pod(1);
        x.pod(2);
        x.pod(2);
        x.ride(0, 1);
        x.pass(1);
        Check.due("from behind, over the end", Check.told(x, 1), "20 -1 -1 0 0 0");
        Check.due("the second berth stays", Check.told(x, 2), "-1 2 1 -1 0 0");
        Check.due("farther off stays", Check.told(x, 0), "-1 1 0 -1 0 0");
        Check.due("one call", x.count(7), 1);
        x.pass(3);
        Check.due("no more calls", x.count(7), 1);
        x.pass(1);
        Check.due("it comes, the rider goes", Check.told(x, 1), "0 -1 -1 1 1 0");
    }

    @Says("Each calls once a minute at most.")
    private static void step4OneCallAMinute() {
        PodGuideway x = Check.ring(0, 10, 20);
        x.pod(2);
        x.pod(2);
        x.pod(1);
        for (int come = 0; come < 4; come++) {
            x.ride(0, 1);
        }
        for (int minute = 1; minute <= 3; minute++) {
            x.pass(1);
            Check.due("calls in minute " + minute, x.count(7), minute);
            Check.due("pods that come", x.station(0, 4), minute);
        }
        x.pass(1);
        Check.due("nobody answers any more", x.count(7), 3);
    }

    @Says("one calls, if more riders wait there than empty pods, in berths or slots, called "
            + "or sent, have it as their goal;")
    private static void step4CountsSentPodsButNoRiders() {
        PodGuideway x = Check.ring(0, 10, 20);
        x.pod(1);
        x.pod(2);
        x.send(0, 0);
        x.ride(0, 1);
        x.pass(1);
        Check.due("a sent pod is enough", x.count(7), 0);
        PodGuideway y = Check.ring(0, 10, 20);
        y.pod(1);
        y.pod(2);
        y.ride(1, 0);
        y.ride(0, 1);
        y.pass(1);
        Check.due("a pod with a rider does not count", y.count(7), 1);
        Check.due("it is under way", Check.told(y, 0), "10 -1 -1 0 1 0");
        Check.due("the other is called", Check.told(y, 1), "20 -1 -1 0 0 0");
    }

    @Says("4. Calls. Stations, by numbers:")
    private static void step4LowerStationFirst() {
        PodGuideway x = Check.ring(12, 18, 10);
        x.pod(2);
        x.ride(1, 2);
        x.ride(0, 2);
        x.pass(1);
        Check.due("station 0 has it", x.told(0, 3), 0);
        Check.due("station 1 has none", x.station(1, 4), 0);
        Check.due("calls that were answered", x.count(7), 1);
    }

    @Says("A minute goes like this:")
    private static void step4RidersAtHomeFirst() {
        PodGuideway x = Check.ring(12, 18);
        x.pod(1);
        x.ride(0, 1);
        x.ride(1, 0);
        x.pass(1);
        Check.due("who is there gets in first", Check.told(x, 0), "18 -1 -1 0 1 0");
        Check.due("no call was answered", x.count(7), 0);
    }

    @Says("5. Merging. Stations, by numbers: if the slot at the place of the station is "
            + "free,")
    private static void step5SlotMustBeFree() {
        PodGuideway x = Check.ring(0, 1, 5);
        x.pod(0);
        x.pod(1);
        x.send(0, 2);
        x.pass(1);
        x.send(1, 2);
        x.pass(1);
        Check.due("one passes by", Check.told(x, 0), "1 -1 -1 2 0 0");
        Check.due("the slot is not free", Check.told(x, 1), "-1 1 0 2 0 0");
        x.pass(1);
        Check.due("the next is free", Check.told(x, 1), "1 -1 -1 2 0 0");
        // A slot that is left in step 2 is free in step 5.
        PodGuideway y = Check.ring(0, 1, 5);
        y.pod(0);
        y.pod(1);
        y.send(0, 1);
        y.pass(1);
        y.send(1, 2);
        y.pass(1);
        Check.due("it went off", Check.told(y, 0), "-1 1 1 -1 0 0");
        Check.due("into its slot", Check.told(y, 1), "1 -1 -1 2 0 0");
    }

    @Says("the pod that is ready in the berth with the smallest number goes into it.")
    private static void step5SmallestBerth() {
        PodGuideway x = Check.ring(0, 12);
        x.pod(0);
        x.pod(0);
        x.pod(0);
        x.send(2, 1);
        x.send(1, 1);
        x.pass(1);
        Check.due("berth 1 goes first", Check.told(x, 1), "0 -1 -1 1 0 0");
        Check.due("berth 2 waits", Check.told(x, 2), "-1 0 2 1 0 0");
        Check.due("berth 0 is idle", Check.told(x, 0), "-1 0 0 -1 0 0");
        x.send(0, 1);
        x.pass(1);
        Check.due("berth 0 goes next", Check.told(x, 0), "0 -1 -1 1 0 0");
        Check.due("berth 2 waits on", Check.told(x, 2), "-1 0 2 1 0 0");
    }
}
