/** The edges of promises 1 to 5: a new object, build, pod, ride and send. */
public final class EdgesOfSetUpTest {
    private static final int LEAST = Integer.MIN_VALUE;
    private static final int MOST = Integer.MAX_VALUE;

    private EdgesOfSetUpTest() {
    }

    public static void main(String[] args) {
        Tests.runAll(EdgesOfSetUpTest.class);
    }

    // ---- promise 1

    @Says("Creates a ring without stations and pods, in the minute 0.")
    private static void promise1NewRingIsEmpty() {
        PodGuideway x = Edges.empty();
        Check.due("counts", Check.counts(x), "0 0 0 0 0 0 24 0 0");
        Check.due("mean", x.mean(), 0.0);
        for (int place = 0; place < 24; place++) {
            Check.due("slot " + place, x.slot(place), -1);
        }
    }

    @Says("Creates a ring without stations and pods, in the minute 0.")
    private static void promise1NewRingHasNoStation0() {
        Edges.refused("pod", Edges.BOUNDS, Edges::empty, x -> x.pod(0));
        Edges.refused("ride", Edges.BOUNDS, Edges::empty, x -> x.ride(0, 1));
        Edges.refused("ride to the same", Edges.BOUNDS, Edges::empty, x -> x.ride(0, 0));
        Edges.refused("station", Edges.BOUNDS, Edges::empty, x -> x.station(0, 0));
        Edges.refused("waits", Edges.BOUNDS, Edges::empty, x -> x.waits(0, 0));
        Edges.refused("takes", Edges.BOUNDS, Edges::empty, x -> x.takes(0, 0));
        Edges.refused("answers", Edges.BOUNDS, Edges::empty, x -> x.answers(0));
    }

    @Says("Creates a ring without stations and pods, in the minute 0.")
    private static void promise1NewRingHasNoPod0() {
        Edges.refused("send", Edges.BOUNDS, Edges::empty, x -> x.send(0, 0));
        Edges.refused("told", Edges.BOUNDS, Edges::empty, x -> x.told(0, 0));
        Edges.refused("when", Edges.BOUNDS, Edges::empty, x -> x.when(0));
    }

    @Says("Creates a ring without stations and pods, in the minute 0.")
    private static void promise1MinutesGoByOnAnEmptyRing() {
        PodGuideway x = Edges.empty();
        Check.due("a minute", x.pass(1), 0);
        Check.due("a hundred", x.pass(100), 0);
        Check.due("counts", Check.counts(x), "101 0 0 0 0 0 24 0 0");
        Check.due("foreseen", x.foresee(100, 6), 24);
    }

    @Says("Creates a ring without stations and pods, in the minute 0.")
    private static void promise1ObjectsAreApart() {
        PodGuideway x = Edges.empty();
        PodGuideway full = Edges.allFull();
        full.foresee(100, 3);
        Check.due("counts", Check.counts(x), "0 0 0 0 0 0 24 0 0");
        Check.due("the number of its first station", x.build(0), 0);
    }

    // ---- promise 2

    @Says("Throws `IndexOutOfBoundsException` if place is not 0 to 23")
    private static void promise2Place0IsTheSmallest() {
        PodGuideway x = Edges.empty();
        Check.due("number", x.build(0), 0);
        Check.due("place", x.station(0, 0), 0);
        Edges.refused("the place ahead of it", Edges.BOUNDS, Edges::empty, r -> r.build(-1));
        Edges.refused("the smallest int", Edges.BOUNDS, Edges::empty, r -> r.build(LEAST));
    }

    @Says("Throws `IndexOutOfBoundsException` if place is not 0 to 23")
    private static void promise2Place23IsTheLargest() {
        PodGuideway x = Edges.empty();
        Check.due("number", x.build(23), 0);
        Check.due("place", x.station(0, 0), 23);
        Edges.refused("the place behind it", Edges.BOUNDS, Edges::empty, r -> r.build(24));
        Edges.refused("the largest int", Edges.BOUNDS, Edges::empty, r -> r.build(MOST));
    }

    @Says("Returns its number.")
    private static void promise2NumbersAre0To5() {
        PodGuideway x = Edges.empty();
        for (int station = 0; station < 6; station++) {
            Check.due("station " + station, x.build(23 - station), station);
            Check.due("stations", x.count(1), station + 1);
        }
    }

    @Says("Throws `IllegalStateException` if there are 6, or one is there")
    private static void promise2SixthIsTheLast() {
        PodGuideway x = Check.ring(0, 4, 8, 12, 16);
        Check.due("the sixth", x.build(23), 5);
        Edges.refused("a seventh", Edges.STATE, Edges::sixStations, r -> r.build(22));
        Edges.refused("a seventh at 1", Edges.STATE, Edges::sixStations, r -> r.build(1));
    }

    @Says("Throws `IllegalStateException` if there are 6, or one is there")
    private static void promise2OneIsThere() {
        Edges.Scene one = () -> Check.ring(0);
        Edges.refused("the first at 0", Edges.STATE, one, x -> x.build(0));
        Edges.Scene five = () -> Check.ring(0, 5, 9, 14, 23);
        for (int place : new int[] {0, 5, 9, 14, 23}) {
            Edges.refused("one of five at " + place, Edges.STATE, five, x -> x.build(place));
        }
        PodGuideway x = five.make();
        Check.due("beside them", x.build(22), 5);
    }

    @Says("Throws `IllegalStateException` if there are 6, or one is there")
    private static void promise2SixAndOneIsThere() {
        Edges.refused("both", Edges.STATE, Edges::sixStations, x -> x.build(0));
    }

    @Says("Throws `IndexOutOfBoundsException` if place is not 0 to 23")
    private static void promise2PlaceIsNamedAheadOfSix() {
        Edges.refused("24, 6 there", Edges.BOUNDS, Edges::sixStations, x -> x.build(24));
        Edges.refused("-1, 6 there", Edges.BOUNDS, Edges::sixStations, x -> x.build(-1));
    }

    @Says("- `place`: the place of a new station")
    private static void promise2PodInTheSlotThereIsNoHindrance() {
        PodGuideway x = Check.ring(22, 3);
        x.pod(0);
        x.send(0, 1);
        x.pass(2);
        Check.due("the pod is there", x.slot(23), 0);
        Check.due("number", x.build(23), 2);
        Check.due("the new one", Check.station(x, 2), "23 0 0 0 0 0 0");
        Check.due("the pod goes on", x.when(0), 4);
    }

    // ---- promise 3

    @Says("Throws `IndexOutOfBoundsException` if there is no such station")
    private static void promise3Station0IsTheFirst() {
        PodGuideway x = Check.ring(23);
        Check.due("number", x.pod(0), 0);
        Edges.refused("station -1", Edges.BOUNDS, Edges::sixStations, r -> r.pod(-1));
        Edges.refused("the smallest int", Edges.BOUNDS, Edges::sixStations, r -> r.pod(LEAST));
    }

    @Says("Throws `IndexOutOfBoundsException` if there is no such station")
    private static void promise3LastStationIsTheLast() {
        PodGuideway x = Edges.sixStations();
        Check.due("number", x.pod(5), 0);
        Check.due("where it is", Check.told(x, 0), "-1 5 0 -1 0 0");
        Edges.refused("station 6 of 6", Edges.BOUNDS, Edges::sixStations, r -> r.pod(6));
        Edges.refused("station 1 of 1", Edges.BOUNDS, () -> Check.ring(4), r -> r.pod(1));
        Edges.refused("the largest int", Edges.BOUNDS, Edges::sixStations, r -> r.pod(MOST));
    }

    @Says("A new pod, idle, in the free berth of a station with the smallest number.")
    private static void promise3AllBerthsAreFree() {
        PodGuideway x = Check.ring(0, 7);
        x.pod(0);
        Check.due("berth 0", Check.told(x, 0), "-1 0 0 -1 0 0");
    }

    @Says("A new pod, idle, in the free berth of a station with the smallest number.")
    private static void promise3OneBerthIsFree() {
        for (int free = 0; free < 3; free++) {
            PodGuideway x = oneBerthFree(free);
            Check.due("number", x.pod(0), 3);
            Check.due("berth " + free, Check.told(x, 3), "-1 0 " + free + " -1 0 0");
        }
    }

    @Says("A new pod, idle, in the free berth of a station with the smallest number.")
    private static void promise3TwoBerthsAreFree() {
        PodGuideway x = Check.ring(0, 7);
        x.pod(0);
        x.pod(0);
        x.send(0, 1);
        x.pass(1);
        x.pod(0);
        Check.due("0 of 0 and 2", Check.told(x, 2), "-1 0 0 -1 0 0");
        x.pod(0);
        Check.due("2 is left", Check.told(x, 3), "-1 0 2 -1 0 0");
    }

    private static PodGuideway oneBerthFree(int free) {
        PodGuideway x = Edges.threeIdle();
        x.send(free, 1);
        x.pass(1);
        return x;
    }

    @Says("A new pod, idle, in the free berth of a station with the smallest number.")
    private static void promise3IdleThoughARiderWaits() {
        PodGuideway x = Edges.nineWait();
        x.pod(0);
        Check.due("idle", Check.told(x, 0), "-1 0 0 -1 0 0");
        Check.due("all wait on", Check.station(x, 0), "0 1 1 9 0 0 0");
        x.pass(1);
        Check.due("the first gets in in the next minute", x.station(0, 3), 8);
    }

    @Says("Returns its number.")
    private static void promise3NumbersAre0To11() {
        PodGuideway x = Edges.sixStations();
        for (int pod = 0; pod < 12; pod++) {
            Check.due("pod " + pod, x.pod(pod % 6), pod);
            Check.due("pods", x.count(2), pod + 1);
        }
    }

    @Says("Throws `IllegalStateException` if there are 12, or no berth is free")
    private static void promise3TwelfthIsTheLast() {
        PodGuideway x = Edges.sixStations();
        for (int pod = 0; pod < 11; pod++) {
            x.pod(pod / 3);
        }
        Check.due("the twelfth", x.pod(5), 11);
        Edges.refused("a thirteenth, free berths", Edges.STATE, Edges::twelveIdle, r -> r.pod(5));
        Edges.refused("a thirteenth, all in slots", Edges.STATE, Edges::fullRing, r -> r.pod(0));
    }

    @Says("Throws `IllegalStateException` if there are 12, or no berth is free")
    private static void promise3ThirdBerthIsTheLast() {
        PodGuideway x = Check.ring(0, 7);
        x.pod(0);
        x.pod(0);
        Check.due("the third", x.pod(0), 2);
        Edges.refused("a fourth", Edges.STATE, Edges::threeIdle, r -> r.pod(0));
        Check.due("elsewhere", x.pod(1), 3);
    }

    @Says("Throws `IllegalStateException` if there are 12, or no berth is free")
    private static void promise3ReadyPodsKeepTheirBerths() {
        Edges.Scene ready = () -> {
            PodGuideway x = Edges.threeIdle();
            x.send(0, 1);
            x.send(1, 1);
            x.send(2, 1);
            return x;
        };
        Edges.refused("three are ready", Edges.STATE, ready, x -> x.pod(0));
        PodGuideway x = ready.make();
        x.pass(1);
        Check.due("when one has merged", x.pod(0), 3);
    }

    @Says("Throws `IllegalStateException` if there are 12, or no berth is free")
    private static void promise3TwelveAndNoBerthIsFree() {
        Edges.refused("both", Edges.STATE, Edges::twelveIdle, x -> x.pod(0));
    }

    @Says("Throws `IndexOutOfBoundsException` if there is no such station")
    private static void promise3StationIsNamedAheadOfTwelve() {
        Edges.refused("6, 12 there", Edges.BOUNDS, Edges::twelveIdle, x -> x.pod(6));
        Edges.refused("-1, 12 there", Edges.BOUNDS, Edges::twelveIdle, x -> x.pod(-1));
    }

    // ---- promise 4

    @Says("Throws `IndexOutOfBoundsException` if there is no such station")
    private static void promise4FromStation0To5() {
        PodGuideway x = Edges.sixStations();
        Check.due("0 to 5", x.ride(0, 5), 1);
        Check.due("5 to 0", x.ride(5, 0), 1);
        Check.due("who waits at 0", x.waits(0, 0), 5);
        Check.due("who waits at 5", x.waits(5, 0), 0);
    }

    @Says("Throws `IndexOutOfBoundsException` if there is no such station")
    private static void promise4FromIsNoStation() {
        for (int from : new int[] {-1, 6, LEAST, MOST}) {
            Edges.refused("from " + from, Edges.BOUNDS, Edges::sixStations, x -> x.ride(from, 0));
        }
        Edges.refused("from 2 of 2", Edges.BOUNDS, () -> Check.ring(0, 7), x -> x.ride(2, 0));
    }

    @Says("Throws `IndexOutOfBoundsException` if there is no such station")
    private static void promise4ToIsNoStation() {
        for (int to : new int[] {-1, 6, LEAST, MOST}) {
            Edges.refused("to " + to, Edges.BOUNDS, Edges::sixStations, x -> x.ride(0, to));
        }
        Edges.refused("to 2 of 2", Edges.BOUNDS, () -> Check.ring(0, 7), x -> x.ride(0, 2));
    }

    @Says("Throws `IllegalArgumentException` if both are the same")
    private static void promise4BothAreTheSame() {
        for (int same : new int[] {0, 3, 5}) {
            Edges.refused("both " + same, Edges.ARGUMENT, Edges::sixStations,
                    x -> x.ride(same, same));
        }
        Edges.refused("on a ring of one station", Edges.ARGUMENT, () -> Check.ring(9),
                x -> x.ride(0, 0));
    }

    @Says("Throws `IndexOutOfBoundsException` if there is no such station")
    private static void promise4NoStationIsNamedAheadOfTheSame() {
        Edges.refused("both 6", Edges.BOUNDS, Edges::sixStations, x -> x.ride(6, 6));
        Edges.refused("both -1", Edges.BOUNDS, Edges::sixStations, x -> x.ride(-1, -1));
    }

    @Says("Returns how many wait there then.")
    private static void promise4AnswersAre1To9() {
        PodGuideway x = Check.ring(0, 7);
        for (int rider = 1; rider <= 9; rider++) {
            Check.due("rider " + rider, x.ride(0, 1), rider);
            Check.due("who waits", x.station(0, 3), rider);
        }
        Check.due("the first at the other", x.ride(1, 0), 1);
    }

    @Says("Throws `IllegalStateException` if 9 wait there")
    private static void promise4NinthIsTheLast() {
        PodGuideway x = Check.ring(0, 7);
        for (int rider = 0; rider < 8; rider++) {
            x.ride(0, 1);
        }
        Check.due("the ninth", x.ride(0, 1), 9);
        Edges.refused("a tenth", Edges.STATE, Edges::nineWait, r -> r.ride(0, 1));
        Edges.refused("a tenth where all is full", Edges.STATE, Edges::allFull, r -> r.ride(5, 4));
    }

    @Says("Throws `IllegalStateException` if 9 wait there")
    private static void promise4NineWaitWhereTheRiderWants() {
        PodGuideway x = Edges.nineWait();
        Check.due("from the other to there", x.ride(1, 0), 1);
    }

    @Says("Throws `IllegalStateException` if 9 wait there")
    private static void promise4AnotherComesWhenOneHasGone() {
        PodGuideway x = Edges.nineWait();
        x.pod(0);
        x.pass(1);
        Check.due("the ninth again", x.ride(0, 1), 9);
    }

    @Says("Throws `IllegalArgumentException` if both are the same")
    private static void promise4OthersAreNamedAheadOfNine() {
        Edges.refused("the same, 9 wait", Edges.ARGUMENT, Edges::nineWait, x -> x.ride(0, 0));
        Edges.refused("to nowhere, 9 wait", Edges.BOUNDS, Edges::nineWait, x -> x.ride(0, 2));
        Edges.refused("to -1, 9 wait", Edges.BOUNDS, Edges::nineWait, x -> x.ride(0, -1));
    }

    @Says("A rider comes, and waits.")
    private static void promise4RiderWaitsThoughAPodIsIdle() {
        PodGuideway x = Edges.threeIdle();
        Check.due("answer", x.ride(0, 1), 1);
        Check.due("nothing else is done", Check.station(x, 0), "0 3 3 1 0 0 0");
        Check.due("riders in pods", x.count(4), 0);
    }

    // ---- promise 5

    @Says("Returns how many places on it is.")
    private static void promise5OnePlaceOnIsTheSmallest() {
        for (int place = 0; place < 24; place++) {
            PodGuideway x = Check.ring(place, (place + 1) % 24);
            x.pod(0);
            Check.due("from " + place, x.send(0, 1), 1);
        }
    }

    @Says("Returns how many places on it is.")
    private static void promise5TwentyThreePlacesOnAreTheMost() {
        for (int place = 0; place < 24; place++) {
            PodGuideway x = Check.ring(place, (place + 23) % 24);
            x.pod(0);
            Check.due("from " + place, x.send(0, 1), 23);
        }
    }

    @Says("Throws `IndexOutOfBoundsException` if there is no such pod or station")
    private static void promise5PodIsTheFirstOrTheLast() {
        PodGuideway x = Edges.twelveIdle();
        Check.due("pod 0", x.send(0, 5), 23);
        Check.due("pod 11", x.send(11, 0), 12);
        Check.due("goals", Check.row(x.told(0, 3), x.told(11, 3)), "5 0");
        for (int pod : new int[] {-1, 12, LEAST, MOST}) {
            Edges.refused("pod " + pod, Edges.BOUNDS, Edges::twelveIdle, r -> r.send(pod, 5));
        }
        Edges.refused("pod 3 of 3", Edges.BOUNDS, Edges::threeIdle, r -> r.send(3, 1));
    }

    @Says("Throws `IndexOutOfBoundsException` if there is no such pod or station")
    private static void promise5StationIsTheFirstOrTheLast() {
        PodGuideway x = Edges.twelveIdle();
        Check.due("to 0", x.send(3, 0), 20);
        Check.due("to 5", x.send(4, 5), 19);
        for (int station : new int[] {-1, 6, LEAST, MOST}) {
            Edges.refused("station " + station, Edges.BOUNDS, Edges::twelveIdle,
                    r -> r.send(0, station));
        }
        Edges.refused("station 2 of 2", Edges.BOUNDS, Edges::threeIdle,
                r -> r.send(0, 2));
    }

    @Says("Throws `IllegalStateException` if it is not idle, or is there")
    private static void promise5PodIsReady() {
        Edges.Scene ready = () -> {
            PodGuideway x = Edges.threeIdle();
            x.build(12);
            x.send(0, 1);
            return x;
        };
        Edges.refused("to its goal", Edges.STATE, ready, x -> x.send(0, 1));
        Edges.refused("to another", Edges.STATE, ready, x -> x.send(0, 2));
        Edges.refused("to where it is", Edges.STATE, ready, x -> x.send(0, 0));
        PodGuideway x = ready.make();
        Check.due("the one beside it is idle", x.send(1, 2), 12);
    }

    @Says("Throws `IllegalStateException` if it is not idle, or is there")
    private static void promise5PodIsReadyWithARider() {
        Edges.Scene scene = () -> {
            PodGuideway x = Edges.threeIdle();
            x.ride(0, 1);
            x.ride(0, 1);
            x.pass(1);
            return x;
        };
        Check.due("it is ready", Check.told(scene.make(), 1), "-1 0 1 1 1 0");
        Edges.refused("ready with a rider", Edges.STATE, scene, x -> x.send(1, 1));
        Edges.refused("in a slot with a rider", Edges.STATE, scene, x -> x.send(0, 1));
        PodGuideway x = scene.make();
        Check.due("the third is idle", x.send(2, 1), 7);
    }

    @Says("Throws `IllegalStateException` if it is not idle, or is there")
    private static void promise5PodIsInASlot() {
        for (int pod : new int[] {0, 11}) {
            for (int station = 0; station < 6; station++) {
                int to = station;
                Edges.refused("pod " + pod + " to " + to, Edges.STATE, Edges::fullRing,
                        x -> x.send(pod, to));
            }
        }
        Edges.Scene barred = () -> {
            PodGuideway x = Edges.barredNext();
            x.pass(1);
            return x;
        };
        Edges.refused("barred", Edges.STATE, barred, x -> x.send(0, 0));
    }

    @Says("Throws `IllegalStateException` if it is not idle, or is there")
    private static void promise5PodIsThere() {
        for (int pod = 0; pod < 3; pod++) {
            int sent = pod;
            Edges.refused("pod " + pod, Edges.STATE, Edges::threeIdle,
                    x -> x.send(sent, 0));
        }
        Edges.refused("on a ring of one station", Edges.STATE, EdgesOfSetUpTest::oneStation,
                x -> x.send(0, 0));
    }

    private static PodGuideway oneStation() {
        PodGuideway x = Check.ring(23);
        x.pod(0);
        return x;
    }

    @Says("Throws `IndexOutOfBoundsException` if there is no such pod or station")
    private static void promise5BoundsAreNamedAheadOfIdle() {
        Edges.refused("a pod in a slot to 6", Edges.BOUNDS, Edges::fullRing, x -> x.send(0, 6));
        Edges.refused("a pod in a slot to -1", Edges.BOUNDS, Edges::fullRing, x -> x.send(0, -1));
        Edges.refused("neither is there", Edges.BOUNDS, Edges::fullRing, x -> x.send(12, 6));
    }

    @Says({"- `pod`: the pod", "- `station`: the station"})
    private static void promise5EachPodToEachStation() {
        for (int pod = 0; pod < 12; pod++) {
            for (int to = 0; to < 6; to++) {
                PodGuideway x = Edges.twelveIdle();
                if (to != pod / 3) {
                    x.send(pod, to);
                    Check.due("goal of " + pod, x.told(pod, 3), to);
                    Check.due("empty pods to " + to, x.station(to, 4), 1);
                    Check.due("the others are idle", x.station(pod / 3, 2), 2);
                }
            }
        }
    }

    @Says("Sends an idle pod, empty, to another station.")
    private static void promise5SentPodIsReadyAndEmpty() {
        PodGuideway x = Edges.threeIdle();
        x.ride(0, 1);
        x.send(0, 1);
        Check.due("sent", Check.told(x, 0), "-1 0 0 1 0 0");
        x.pass(1);
        Check.due("it goes empty, though one waited", Check.told(x, 0), "0 -1 -1 1 0 0");
    }

    @Says("Sends an idle pod, empty, to another station.")
    private static void promise5PodThatHasArrivedIsSentAgain() {
        PodGuideway x = Check.ring(0, 23);
        x.pod(0);
        x.send(0, 1);
        x.pass(24);
        Check.due("it is there", Check.told(x, 0), "-1 1 0 -1 0 0");
        Check.due("back", x.send(0, 0), 1);
    }
}
