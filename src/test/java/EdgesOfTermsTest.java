/** The edges that the section Terms names: the ring, stations, pods and the steps of a minute. */
public final class EdgesOfTermsTest {
    private EdgesOfTermsTest() {
    }

    public static void main(String[] args) {
        Tests.runAll(EdgesOfTermsTest.class);
    }

    // ---- calls and time

    @Says("An object is used for at most 512 calls after it has been made")
    private static void the512thCallIsAnswered() {
        PodGuideway x = Edges.sixStations();
        for (int rider = 0; rider < 9; rider++) {
            for (int from = 0; from < 6; from++) {
                x.ride(from, from == 0 ? 5 : 0);
            }
        }
        for (int made = 60; made < 510; made++) {
            x.pass(100);
        }
        Check.due("the 511th call", x.waits(0, 8), 450005);
        long d = mixed(1399L, 45000, 6, 0, 54, 0, 0, 24, 0, 0);
        int[] places = {0, 4, 8, 12, 16, 23};
        for (int station = 0; station < 6; station++) {
            d = mixed(d, places[station], 0, 0, 9, 0, 405000, 0);
            for (int rider = 0; rider < 9; rider++) {
                d = mixed(d, station == 0 ? 450005 : 450000);
            }
        }
        for (int place = 0; place < 24; place++) {
            d = mixed(d, -1);
        }
        Check.due("the 512th call", x.digest(), d);
    }

    private static long mixed(long start, int... numbers) {
        long d = start;
        for (int number : numbers) {
            d = d * 31 + number;
        }
        return d;
    }

    @Says("Time is told in minutes, from 0.")
    private static void timeStartsAt0() {
        PodGuideway x = Edges.empty();
        Check.due("before the first minute", x.count(0), 0);
        x.pass(1);
        Check.due("behind it", x.count(0), 1);
    }

    // ---- the ring

    @Says("Ring. It has 24 places, 0 to 23;")
    private static void ringHasThePlaces0To23() {
        PodGuideway x = Edges.empty();
        Check.due("slots", x.count(6), 24);
        Check.due("the first", x.slot(0), -1);
        Check.due("the last", x.slot(23), -1);
        Edges.refused("the one ahead of the first", Edges.BOUNDS, Edges::empty, r -> r.slot(-1));
        Edges.refused("the one behind the last", Edges.BOUNDS, Edges::empty, r -> r.slot(24));
    }

    @Says("behind 23 comes 0.")
    private static void ringBehind23Comes0() {
        PodGuideway x = Check.ring(23, 5);
        x.pod(0);
        Check.due("places on", x.send(0, 1), 6);
        x.pass(1);
        Check.due("at 23", slots(x, 23, 0), "0 -1");
        x.pass(1);
        Check.due("at 0", slots(x, 23, 0), "-1 0");
        Check.due("told so", x.told(0, 0), 0);
        x.pass(1);
        Check.due("at 1", slots(x, 23, 0, 1), "-1 -1 0");
    }

    @Says("behind 23 comes 0.")
    private static void ringBehind23Comes0WithAPodAtEachEnd() {
        PodGuideway x = Check.ring(23, 0, 12);
        x.pod(0);
        x.pod(1);
        x.send(0, 2);
        x.send(1, 2);
        x.pass(1);
        Check.due("at both ends", slots(x, 22, 23, 0, 1), "-1 0 1 -1");
        x.pass(1);
        Check.due("one on", slots(x, 22, 23, 0, 1), "-1 -1 0 1");
    }

    @Says("behind 23 comes 0.")
    private static void ringOnceRoundTakes24Minutes() {
        PodGuideway x = Edges.barredNext();
        x.pass(1);
        Check.due("at its goal", x.told(0, 0), 1);
        x.pass(22);
        Check.due("at the last place", x.told(0, 0), 23);
        x.pass(2);
        Check.due("there again", x.told(0, 0), 1);
    }

    @Says("At each place there is a slot, with a pod or free.")
    private static void ringIsEmpty() {
        PodGuideway x = Edges.twelveIdle();
        Check.due("free slots", x.count(6), 24);
        for (int place = 0; place < 24; place++) {
            Check.due("slot " + place, x.slot(place), -1);
        }
    }

    @Says("At each place there is a slot, with a pod or free.")
    private static void ringIsFull() {
        PodGuideway x = Edges.fullRing();
        Check.due("free slots", x.count(6), 12);
        Check.due("slots", allSlots(x),
                "2 1 0 -1 5 4 3 -1 8 7 6 -1 11 10 9 -1 -1 -1 -1 -1 -1 -1 -1 -1");
        x.pass(17);
        Check.due("still full", x.count(6), 12);
        Check.due("slots over the end", allSlots(x),
                "-1 8 7 6 -1 11 10 9 -1 -1 -1 -1 -1 -1 -1 -1 -1 2 1 0 -1 5 4 3");
        x.pass(1);
        Check.due("three have gone off", x.count(6), 15);
        x.pass(2);
        Check.due("six more", x.count(6), 21);
        x.pass(3);
        Check.due("empty again", x.count(6), 24);
    }

    // ---- stations

    @Says("Stations. There are at most 6, numbered from 0 in the order of their building;")
    private static void stationsAreNumbered0To5() {
        PodGuideway x = Edges.empty();
        int[] places = {23, 0, 11, 12, 22, 1};
        for (int station = 0; station < 6; station++) {
            Check.due("number " + station, x.build(places[station]), station);
        }
        for (int station = 0; station < 6; station++) {
            Check.due("place of " + station, x.station(station, 0), places[station]);
        }
        Edges.refused("a seventh", Edges.STATE, Edges::sixStations, r -> r.build(13));
    }

    @Says("each is at a place, no two at one;")
    private static void stationsAreAtPlacesOfTheirOwn() {
        PodGuideway x = Check.ring(0, 23);
        Check.due("beside both", x.build(1), 2);
        Edges.refused("another at 0", Edges.STATE, () -> Check.ring(0, 23), r -> r.build(0));
        Edges.refused("another at 23", Edges.STATE, () -> Check.ring(0, 23), r -> r.build(23));
    }

    @Says("it has 3 berths, 0 to 2, each with a pod or free,")
    private static void berthRowIsEmptyAndFull() {
        PodGuideway x = Check.ring(0, 7);
        Check.due("empty", Check.station(x, 0), "0 0 0 0 0 0 0");
        for (int berth = 0; berth < 3; berth++) {
            int pod = x.pod(0);
            Check.due("berth " + berth, x.told(pod, 2), berth);
        }
        Check.due("full", Check.station(x, 0), "0 3 3 0 0 0 0");
        Edges.refused("a fourth", Edges.STATE, Edges::threeIdle, r -> r.pod(0));
        for (int pod = 0; pod < 3; pod++) {
            x.send(pod, 1);
        }
        x.pass(3);
        Check.due("empty again", Check.station(x, 0), "0 0 0 0 0 0 0");
    }

    @Says("and riders who wait, at most 9,")
    private static void queueIsEmptyAndFull() {
        PodGuideway x = Check.ring(0, 7);
        Check.due("nobody waits", x.station(0, 3), 0);
        Edges.refused("the first of nobody", Edges.BOUNDS, () -> Check.ring(0, 7),
                r -> r.waits(0, 0));
        for (int rider = 0; rider < 9; rider++) {
            Check.due("rider " + rider, x.ride(0, 1), rider + 1);
        }
        Check.due("the ninth", x.waits(0, 8), 1);
        Edges.refused("a tenth", Edges.STATE, Edges::nineWait, r -> r.ride(0, 1));
        x.pod(0);
        x.pass(1);
        Check.due("eight", x.station(0, 3), 8);
        Check.due("nine again", x.ride(0, 1), 9);
        Check.due("the new one is the last", x.waits(0, 8), 1);
        Check.due("the one ahead", x.waits(0, 7), 11);
    }

    @Says("each with a station to which they want to go, in the order in which they came.")
    private static void queueIsInTheOrderOfComing() {
        PodGuideway x = Edges.sixStations();
        int[] wanted = {5, 1, 5, 2, 4, 3, 3, 1, 5};
        for (int to : wanted) {
            x.ride(0, to);
        }
        for (int rider = 0; rider < 9; rider++) {
            Check.due("rider " + rider, x.waits(0, rider), wanted[rider]);
        }
        x.pod(0);
        x.pass(1);
        for (int rider = 0; rider < 8; rider++) {
            Check.due("one up, rider " + rider, x.waits(0, rider), 10 + wanted[rider + 1]);
        }
        x.ride(5, 0);
        Check.due("the smallest station", x.waits(5, 0), 0);
    }

    // ---- pods

    @Says("Pods. There are at most 12, numbered likewise;")
    private static void podsAreNumbered0To11() {
        PodGuideway x = Edges.sixStations();
        for (int pod = 0; pod < 12; pod++) {
            Check.due("number " + pod, x.pod(5 - pod / 3), pod);
        }
        Check.due("pods", x.count(2), 12);
        Edges.refused("a thirteenth", Edges.STATE, Edges::twelveIdle, r -> r.pod(4));
    }

    @Says("each is in a berth or in a slot, has a rider or is empty, and has a goal, "
            + "a station, or none.")
    private static void podIsInABerthOrInASlot() {
        PodGuideway x = Check.ring(0, 7);
        x.pod(0);
        Check.due("in a berth, empty, without a goal", Check.told(x, 0), "-1 0 0 -1 0 0");
        x.ride(0, 1);
        x.pass(1);
        Check.due("in a slot, with rider and goal", Check.told(x, 0), "0 -1 -1 1 1 0");
        x.pass(7);
        Check.due("in a berth again", Check.told(x, 0), "-1 1 0 -1 0 0");
        x.send(0, 0);
        Check.due("in a berth, empty, with a goal", Check.told(x, 0), "-1 1 0 0 0 0");
        x.pass(1);
        Check.due("in a slot, empty, with a goal", Check.told(x, 0), "7 -1 -1 0 0 0");
    }

    @Says("A pod in a berth without a goal is idle; one in a berth with a goal is ready.")
    private static void podInABerthIsIdleOrReady() {
        PodGuideway x = Edges.threeIdle();
        for (int pod = 0; pod < 3; pod++) {
            Check.due("idle ones", x.station(0, 2), 3 - pod);
            x.send(pod, 1);
            Check.due("pods in berths", x.station(0, 1), 3);
        }
        Check.due("none is idle", x.station(0, 2), 0);
    }

    // ---- step 1

    @Says("All slots go one place on, with their pods.")
    private static void step1AllPodsOfAFullRingGoOnePlaceOn() {
        PodGuideway x = Edges.fullRing();
        int[] before = new int[12];
        for (int pod = 0; pod < 12; pod++) {
            before[pod] = x.told(pod, 0);
        }
        x.pass(1);
        for (int pod = 0; pod < 12; pod++) {
            Check.due("pod " + pod, x.told(pod, 0), before[pod] + 1);
            Check.due("slot of pod " + pod, x.slot(before[pod] + 1), pod);
        }
    }

    @Says("All slots go one place on, with their pods.")
    private static void step1PodsInBerthsStay() {
        PodGuideway x = Edges.twelveIdle();
        x.pass(1);
        for (int pod = 0; pod < 12; pod++) {
            Check.due("pod " + pod, Check.told(x, pod),
                    "-1 " + pod / 3 + " " + pod % 3 + " -1 0 0");
        }
    }

    // ---- step 2

    @Says("a pod in the slot at the place of the station, whose goal this station is,")
    private static void step2PodWithAnotherGoalGoesBy() {
        PodGuideway x = Check.ring(0, 1, 2, 5);
        x.pod(0);
        x.pod(1);
        x.pod(1);
        x.pod(1);
        x.send(0, 3);
        x.pass(2);
        Check.due("by full berths", Check.told(x, 0), "1 -1 -1 3 0 0");
        x.pass(1);
        Check.due("by free berths", Check.told(x, 0), "2 -1 -1 3 0 0");
        x.pass(3);
        Check.due("off at its goal", Check.told(x, 0), "-1 3 0 -1 0 0");
    }

    @Says("goes off into the free berth with the smallest number,")
    private static void step2AllBerthsAreFree() {
        Check.due("berth", berthOfOneThatComes(), 0);
    }

    @Says("goes off into the free berth with the smallest number,")
    private static void step2OneBerthIsTaken() {
        Check.due("berth behind 0", berthOfOneThatComes(0), 1);
        Check.due("berth ahead of 1", berthOfOneThatComes(1), 0);
        Check.due("berth ahead of 2", berthOfOneThatComes(2), 0);
    }

    @Says("goes off into the free berth with the smallest number,")
    private static void step2OneBerthIsFree() {
        Check.due("the last", berthOfOneThatComes(0, 1), 2);
        Check.due("that between", berthOfOneThatComes(0, 2), 1);
        Check.due("the first", berthOfOneThatComes(1, 2), 0);
    }

    /** The berth into which pod 0 goes off where these berths are taken; -1 in its slot. */
    private static int berthOfOneThatComes(int... taken) {
        PodGuideway x = Check.ring(0, 12, 20);
        x.pod(0);
        boolean[] stays = new boolean[3];
        for (int berth : taken) {
            stays[berth] = true;
        }
        for (int berth = 0; berth < 3; berth++) {
            x.pod(1);
        }
        for (int berth = 0; berth < 3; berth++) {
            if (!stays[berth]) {
                x.send(1 + berth, 2);
            }
        }
        x.pass(20);
        x.send(0, 1);
        x.pass(12);
        Check.due("not yet there", x.told(0, 0), 11);
        x.pass(1);
        return x.told(0, 2);
    }

    @Says("and is idle and empty there: its rider, if it has one, has arrived.")
    private static void step2RiderHasArrived() {
        PodGuideway x = Check.ring(0, 23);
        x.pod(1);
        x.ride(1, 0);
        x.pass(1);
        Check.due("riders in pods", x.count(4), 1);
        Check.due("arrivals from 23 to 0", x.pass(1), 1);
        Check.due("idle and empty", Check.told(x, 0), "-1 0 0 -1 0 0");
        Check.due("the station", Check.station(x, 0), "0 1 1 0 0 0 1");
        Check.due("riders in pods then", x.count(4), 0);
        Check.due("riders who arrived", x.count(5), 1);
    }

    @Says("its rider, if it has one, has arrived.")
    private static void step2TwoRidersHaveArrived() {
        PodGuideway x = Check.ring(0, 23);
        x.pod(1);
        x.pod(1);
        x.ride(1, 0);
        x.ride(1, 0);
        Check.due("the first", x.pass(2), 1);
        Check.due("the second", x.pass(1), 1);
        Check.due("both", x.station(0, 6), 2);
    }

    @Says("its rider, if it has one, has arrived.")
    private static void step2EmptyPodBringsNobody() {
        PodGuideway x = Check.ring(0, 23);
        x.pod(1);
        x.send(0, 0);
        x.pass(1);
        Check.due("arrivals", x.pass(1), 0);
        Check.due("idle and empty", Check.told(x, 0), "-1 0 0 -1 0 0");
        Check.due("the station", Check.station(x, 0), "0 1 1 0 0 0 0");
        Check.due("riders who arrived", x.count(5), 0);
    }

    @Says("Without a free berth it stays in its slot.")
    private static void step2NoFreeBerthAsThreeAreIdle() {
        PodGuideway x = Edges.barredNext();
        Check.due("arrivals", x.pass(1), 0);
        Check.due("it stays", Check.told(x, 0), "1 -1 -1 1 1 1");
        Check.due("its slot", x.slot(1), 0);
        Check.due("the rider rides on", Check.counts(x), "2 2 4 0 1 0 23 0 0");
        x.pass(24);
        Check.due("once more", Check.told(x, 0), "1 -1 -1 1 1 2");
    }

    @Says("Without a free berth it stays in its slot.")
    private static void step2NoFreeBerthAsThreeAreReady() {
        PodGuideway x = Edges.barredNext();
        for (int pod = 1; pod <= 3; pod++) {
            x.send(pod, 0);
        }
        x.pass(1);
        Check.due("it stays", Check.told(x, 0), "1 -1 -1 1 1 1");
        for (int pod = 1; pod <= 3; pod++) {
            Check.due("ready pod " + pod, Check.told(x, pod), "-1 1 " + (pod - 1) + " 0 0 0");
        }
    }

    @Says("Without a free berth it stays in its slot.")
    private static void step2BerthThatWasLeftAMinuteAgoIsFree() {
        PodGuideway x = Check.ring(0, 2);
        x.pod(0);
        x.ride(0, 1);
        x.pass(1);
        x.pod(1);
        x.pod(1);
        x.pod(1);
        x.send(2, 0);
        Check.due("on the way", x.pass(1), 0);
        Check.due("arrived", x.pass(1), 1);
        Check.due("in the berth that was left", Check.told(x, 0), "-1 1 1 -1 0 0");
    }

    @Says("Without a free berth it stays in its slot.")
    private static void step2NoFreeBerthBehindTheEndOfTheRing() {
        PodGuideway x = Check.ring(23, 0);
        x.pod(0);
        x.send(0, 1);
        x.pass(1);
        x.pod(1);
        x.pod(1);
        x.pod(1);
        x.pass(1);
        Check.due("it stays at 0", Check.told(x, 0), "0 -1 -1 1 0 1");
        x.pass(23);
        Check.due("at 23", Check.told(x, 0), "23 -1 -1 1 0 1");
        x.send(1, 0);
        Check.due("too late", x.pass(1), 0);
        Check.due("it stays again", Check.told(x, 0), "0 -1 -1 1 0 2");
        x.pass(24);
        Check.due("off at last", Check.told(x, 0), "-1 1 0 -1 0 2");
    }

    // ---- step 3

    @Says("as long as riders wait there, and a pod is idle there,")
    private static void step3NobodyWaits() {
        PodGuideway x = Edges.threeIdle();
        x.pass(1);
        Check.due("all stay idle", Check.station(x, 0), "0 3 3 0 0 0 0");
    }

    @Says("as long as riders wait there, and a pod is idle there,")
    private static void step3NobodyIsIdle() {
        PodGuideway x = Edges.nineWait();
        x.pass(1);
        Check.due("all wait on", Check.station(x, 0), "0 0 0 9 0 9 0");
    }

    @Says("as long as riders wait there, and a pod is idle there,")
    private static void step3AsManyRidersAsIdlePods() {
        PodGuideway x = Edges.threeIdle();
        for (int rider = 0; rider < 3; rider++) {
            x.ride(0, 1);
        }
        x.pass(1);
        Check.due("one has merged, two are ready", Check.station(x, 0), "0 2 0 0 0 0 0");
        Check.due("riders in pods", x.count(4), 3);
    }

    @Says("as long as riders wait there, and a pod is idle there,")
    private static void step3MoreRidersThanIdlePods() {
        PodGuideway x = Edges.nineWait();
        x.pod(0);
        x.pod(0);
        x.pod(0);
        x.pass(1);
        Check.due("six wait on", Check.station(x, 0), "0 2 0 6 0 6 0");
        Check.due("riders in pods", x.count(4), 3);
    }

    @Says("the first rider gets into the idle one in the berth with the smallest number;")
    private static void step3FewerRidersThanIdlePods() {
        PodGuideway x = Edges.threeIdle();
        x.ride(0, 1);
        x.pass(1);
        Check.due("pod of berth 0", Check.told(x, 0), "0 -1 -1 1 1 0");
        Check.due("pod of berth 1", Check.told(x, 1), "-1 0 1 -1 0 0");
        Check.due("pod of berth 2", Check.told(x, 2), "-1 0 2 -1 0 0");
    }

    @Says("the first rider gets into the idle one in the berth with the smallest number;")
    private static void step3TheFirstRiderIsTheFirst() {
        PodGuideway x = Edges.sixStations();
        x.pod(0);
        x.pod(0);
        x.pod(0);
        x.ride(0, 5);
        x.ride(0, 1);
        x.ride(0, 3);
        x.ride(0, 2);
        x.pass(1);
        Check.due("goals", Check.row(x.told(0, 3), x.told(1, 3), x.told(2, 3)), "5 1 3");
        Check.due("who waits", x.waits(0, 0), 12);
    }

    @Says("its goal is where this rider wants to go.")
    private static void step3GoalIsTheSmallestOrLargestStation() {
        PodGuideway x = Edges.sixStations();
        x.pod(0);
        x.pod(5);
        x.ride(0, 5);
        x.ride(5, 0);
        x.pass(1);
        Check.due("the largest", Check.told(x, 0), "0 -1 -1 5 1 0");
        Check.due("the smallest", Check.told(x, 1), "23 -1 -1 0 1 0");
    }

    @Says("Nobody gets into a pod that is ready, empty or not.")
    private static void step3ReadyEmptyPodsGoEmpty() {
        PodGuideway x = Edges.threeIdle();
        x.send(0, 1);
        x.send(1, 1);
        x.ride(0, 1);
        x.ride(0, 1);
        x.pass(1);
        Check.due("ready in berth 0", Check.told(x, 0), "0 -1 -1 1 0 0");
        Check.due("ready in berth 1", Check.told(x, 1), "-1 0 1 1 0 0");
        Check.due("idle in berth 2", Check.told(x, 2), "-1 0 2 1 1 0");
        Check.due("one waits", x.station(0, 3), 1);
        x.pass(1);
        Check.due("still empty", Check.told(x, 1), "0 -1 -1 1 0 0");
        Check.due("one waits on", x.station(0, 3), 1);
    }

    @Says("Nobody gets into a pod that is ready, empty or not.")
    private static void step3ReadyPodWithARiderTakesNoOther() {
        PodGuideway x = Check.ring(0, 1, 12);
        x.pod(0);
        x.send(0, 2);
        x.pass(1);
        x.pod(1);
        x.ride(1, 0);
        x.ride(1, 2);
        x.pass(1);
        Check.due("it can't merge", Check.told(x, 1), "-1 1 0 0 1 0");
        Check.due("the second waits", x.waits(1, 0), 12);
        x.pass(1);
        Check.due("it goes with the first", Check.told(x, 1), "1 -1 -1 0 1 0");
        Check.due("the second waits on", x.waits(1, 0), 22);
    }

    @Says("Nobody gets into a pod that is ready, empty or not.")
    private static void step3PodThatCameInThisMinuteIsIdle() {
        PodGuideway x = Check.ring(0, 3);
        x.pod(0);
        x.ride(0, 1);
        x.pass(3);
        x.ride(1, 0);
        Check.due("one arrives", x.pass(1), 1);
        Check.due("the next is in", Check.told(x, 0), "3 -1 -1 0 1 0");
        Check.due("without a minute", x.count(8), 0);
    }

    // ---- step 4

    @Says("one calls, if more riders wait there than empty pods, in berths or slots, called or "
            + "sent, have it as their goal;")
    private static void step4NobodyWaitsAndNoneComes() {
        PodGuideway x = Edges.threeIdle();
        x.pass(1);
        Check.due("calls", x.count(7), 0);
        Check.due("pods that come", x.station(1, 4), 0);
    }

    @Says("one calls, if more riders wait there than empty pods")
    private static void step4OneWaitsAndNoneComes() {
        PodGuideway x = Edges.threeIdle();
        x.ride(1, 0);
        x.pass(1);
        Check.due("calls", x.count(7), 1);
        Check.due("pods that come", x.station(1, 4), 1);
        x.pass(6);
        Check.due("it calls no more", x.count(7), 1);
    }

    @Says("in berths or slots, called or sent, have it as their goal;")
    private static void step4AsManyComeAsWait() {
        PodGuideway inBerth = Edges.threeIdle();
        inBerth.send(0, 1);
        inBerth.ride(1, 0);
        inBerth.pass(1);
        Check.due("sent, in a berth", inBerth.count(7), 0);
        PodGuideway inSlot = Edges.threeIdle();
        inSlot.send(0, 1);
        inSlot.pass(1);
        inSlot.ride(1, 0);
        inSlot.pass(1);
        Check.due("sent, in a slot", inSlot.count(7), 0);
        PodGuideway called = Edges.threeIdle();
        called.ride(1, 0);
        called.pass(1);
        called.pass(1);
        Check.due("called", called.count(7), 1);
    }

    @Says("one calls, if more riders wait there than empty pods")
    private static void step4OneMoreWaitsThanCome() {
        PodGuideway x = Edges.threeIdle();
        x.send(0, 1);
        x.ride(1, 0);
        x.ride(1, 0);
        x.pass(1);
        Check.due("calls", x.count(7), 1);
        Check.due("pods that come", x.station(1, 4), 2);
        x.pass(1);
        Check.due("calls then", x.count(7), 1);
    }

    @Says("one calls, if more riders wait there than empty pods")
    private static void step4FewerWaitThanCome() {
        PodGuideway x = Edges.threeIdle();
        x.send(0, 1);
        x.send(1, 1);
        x.ride(1, 0);
        x.pass(1);
        Check.due("calls", x.count(7), 0);
        Check.due("the third is idle", x.told(2, 3), -1);
    }

    @Says("than empty pods, in berths or slots")
    private static void step4PodWithARiderDoesNotCount() {
        PodGuideway x = Edges.threeIdle();
        x.ride(0, 1);
        x.ride(1, 0);
        x.pass(1);
        Check.due("a rider comes there", Check.told(x, 0), "0 -1 -1 1 1 0");
        Check.due("calls", x.count(7), 1);
        Check.due("empty pods that come", x.station(1, 4), 1);
    }

    @Says("than empty pods, in berths or slots")
    private static void step4BarredEmptyPodCounts() {
        // Three ready pods with riders fill the berths of station 1, pod 0 is barred there.
        PodGuideway x = Check.ring(0, 1, 12);
        x.pod(0);
        x.send(0, 1);
        x.pass(1);
        x.pod(1);
        x.pod(1);
        x.pod(1);
        x.pod(2);
        for (int rider = 0; rider < 4; rider++) {
            x.ride(1, 0);
        }
        x.pass(1);
        Check.due("barred", Check.told(x, 0), "1 -1 -1 1 0 1");
        Check.due("one waits, one comes round", Check.station(x, 1), "1 3 0 1 1 1 0");
        Check.due("calls", x.count(7), 0);
    }

    @Says("one calls, if more riders wait there than empty pods")
    private static void step4NineWaitNineAreCalled() {
        PodGuideway x = nineWaitAtTheEnd();
        x.pass(11);
        Check.due("calls", x.count(7), 9);
        Check.due("pods that come", x.station(5, 4), 9);
        // Fewest places on: from station 3, then 2, then 1; station 0 is 23 places behind.
        for (int pod = 0; pod < 12; pod++) {
            Check.due("goal of pod " + pod, x.told(pod, 3), pod < 3 ? -1 : 5);
        }
    }

    @Says("one calls, if more riders wait there than empty pods")
    private static void step4CallsThoughItsBerthsAreFull() {
        // Three ready pods with riders are in its berths, pod 3 passes by: none can merge.
        PodGuideway x = Check.ring(0, 1, 12);
        for (int pod = 0; pod < 3; pod++) {
            x.pod(1);
        }
        x.pod(0);
        x.pod(2);
        x.send(3, 2);
        x.pass(1);
        for (int rider = 0; rider < 4; rider++) {
            x.ride(1, 2);
        }
        x.pass(1);
        Check.due("no berth is free", Check.station(x, 1), "1 3 0 1 1 1 0");
        Check.due("calls", x.count(7), 1);
        Check.due("the pod that is called", Check.told(x, 4), "12 -1 -1 1 0 0");
    }

    @Says("Each calls once a minute at most.")
    private static void step4OnceAMinuteThoughNineWait() {
        PodGuideway x = nineWaitAtTheEnd();
        for (int minute = 1; minute <= 9; minute++) {
            x.pass(1);
            Check.due("calls in minute " + minute, x.count(7), minute);
        }
        x.pass(1);
        Check.due("calls in minute 10", x.count(7), 9);
    }

    private static PodGuideway nineWaitAtTheEnd() {
        PodGuideway x = Edges.twelveIdle();
        for (int rider = 0; rider < 9; rider++) {
            x.ride(5, 4);
        }
        return x;
    }

    @Says("it is answered by that of the other stations at which a pod is idle, and nobody waits,")
    private static void step4WhereARiderTakesTheOnlyPodNobodyAnswers() {
        PodGuideway x = Check.ring(0, 12);
        x.pod(1);
        x.ride(0, 1);
        x.ride(1, 0);
        x.pass(1);
        Check.due("calls", x.count(7), 0);
        Check.due("the pod", Check.told(x, 0), "12 -1 -1 0 1 0");
    }

    @Says("it is answered by that of the other stations at which a pod is idle, and nobody waits,")
    private static void step4WhereAPodIsLeftBehindBoardingItAnswers() {
        PodGuideway x = Check.ring(0, 12);
        x.pod(1);
        x.pod(1);
        x.ride(0, 1);
        x.ride(1, 0);
        x.pass(1);
        Check.due("calls", x.count(7), 1);
        Check.due("that with the rider", Check.told(x, 0), "12 -1 -1 0 1 0");
        Check.due("that which is called", Check.told(x, 1), "-1 1 1 0 0 0");
    }

    @Says("from which it is the fewest places on to this one;")
    private static void step4OnePlaceBehindIsNearerThanOneAhead() {
        for (int place : new int[] {0, 1, 12, 22, 23}) {
            PodGuideway x = Check.ring((place + 1) % 24, place, (place + 23) % 24);
            x.pod(0);
            x.pod(2);
            x.ride(1, 0);
            x.pass(1);
            Check.due("1 place on to " + place, x.told(1, 3), 1);
            Check.due("23 places on to " + place, x.told(0, 3), -1);
        }
    }

    @Says("from which it is the fewest places on to this one;")
    private static void step4TwentyThreePlacesOnIsNotTooFar() {
        PodGuideway x = Check.ring(0, 23, 5);
        x.pod(0);
        x.ride(1, 2);
        x.pass(1);
        Check.due("it answers from 0 to 23", Check.told(x, 0), "0 -1 -1 1 0 0");
        x.pass(23);
        Check.due("it has come, with the rider in it", Check.told(x, 0), "23 -1 -1 2 1 0");
    }

    @Says("from which it is the fewest places on to this one;")
    private static void step4TwoBehindIsNearerThanThree() {
        PodGuideway x = Check.ring(21, 22, 0);
        x.pod(0);
        x.pod(1);
        x.ride(2, 0);
        Check.due("who would answer", x.answers(2), 1);
        x.pass(1);
        Check.due("two places", x.told(1, 3), 2);
        Check.due("three places", x.told(0, 3), -1);
    }

    @Says("from which it is the fewest places on to this one;")
    private static void step4NearestAnswersWhateverItsNumber() {
        PodGuideway x = Check.ring(0, 23, 12, 1);
        x.pod(1);
        x.pod(2);
        x.pod(3);
        for (int rider = 0; rider < 3; rider++) {
            x.ride(0, 1);
        }
        x.pass(1);
        Check.due("from 23", x.told(0, 3), 0);
        Check.due("not yet from 12", x.told(1, 3), -1);
        x.pass(1);
        Check.due("from 12 then", x.told(1, 3), 0);
        Check.due("not yet from 1", x.told(2, 3), -1);
    }

    @Says("the idle pod in the berth there with the smallest number has this station as its "
            + "goal then, and is empty.")
    private static void step4TheIdlePodInTheSmallestBerth() {
        for (int sent = 0; sent < 3; sent++) {
            PodGuideway x = Check.ring(0, 7, 12);
            x.pod(0);
            x.pod(0);
            x.pod(0);
            for (int pod = 0; pod < sent; pod++) {
                x.send(pod, 2);
            }
            x.ride(1, 0);
            x.pass(1);
            Check.due("called with " + sent + " ready ones", x.told(sent, 3), 1);
            Check.due("empty with " + sent + " ready ones", x.told(sent, 4), 0);
            for (int pod = sent + 1; pod < 3; pod++) {
                Check.due("idle pod " + pod, x.told(pod, 3), -1);
            }
        }
    }

    @Says("Without such a one nobody answers.")
    private static void step4NobodyAnswersWithoutPods() {
        PodGuideway x = Edges.nineWait();
        x.pass(100);
        Check.due("calls that were answered", x.count(7), 0);
        Check.due("they wait", x.station(0, 5), 900);
        x.pod(1);
        x.pass(1);
        Check.due("a call is answered then", x.count(7), 1);
    }

    @Says("Without such a one nobody answers.")
    private static void step4NobodyAnswersAsNoneIsIdle() {
        PodGuideway x = Edges.allFull();
        x.pass(1);
        Check.due("calls that were answered", x.count(7), 0);
        PodGuideway y = Check.ring(0, 7, 12);
        y.pod(1);
        y.send(0, 2);
        y.ride(0, 1);
        y.pass(1);
        Check.due("a ready one does not answer", y.count(7), 0);
        y.pass(4);
        Check.due("one in a slot does not answer", y.count(7), 0);
        y.pass(1);
        Check.due("it answers where it comes in", y.count(7), 1);
    }

    @Says("4. Calls. Stations, by numbers:")
    private static void step4TheSmallerNumberCallsFirst() {
        PodGuideway x = Edges.sixStations();
        x.pod(5);
        x.pod(5);
        x.pod(5);
        for (int station = 0; station < 5; station++) {
            x.ride(station, 5);
        }
        x.pass(1);
        Check.due("calls that were answered", x.count(7), 3);
        Check.due("goals", Check.row(x.told(0, 3), x.told(1, 3), x.told(2, 3)), "0 1 2");
        Check.due("none for 3", x.station(3, 4), 0);
        Check.due("none for 4", x.station(4, 4), 0);
    }

    // ---- step 5

    @Says("if the slot at the place of the station is free,")
    private static void step5SlotThatIsNotFree() {
        PodGuideway x = Check.ring(0, 3, 12);
        x.pod(0);
        x.pod(0);
        x.pod(0);
        x.pod(1);
        for (int pod = 0; pod < 3; pod++) {
            x.send(pod, 2);
        }
        x.pass(3);
        x.send(3, 2);
        for (int pod = 0; pod < 3; pod++) {
            x.pass(1);
            Check.due("slot with pod " + pod, x.slot(3), pod);
            Check.due("it waits", Check.told(x, 3), "-1 1 0 2 0 0");
        }
        x.pass(1);
        Check.due("it merges", Check.told(x, 3), "3 -1 -1 2 0 0");
    }

    @Says("if the slot at the place of the station is free,")
    private static void step5SlotOfABarredPodIsNotFree() {
        PodGuideway x = Edges.barredNext();
        x.send(1, 0);
        x.pass(1);
        Check.due("the barred one", x.slot(1), 0);
        Check.due("the ready one", Check.told(x, 1), "-1 1 0 0 0 0");
        x.pass(1);
        Check.due("it merges behind it", Check.told(x, 1), "1 -1 -1 0 0 0");
    }

    @Says("if the slot at the place of the station is free,")
    private static void step5SlotThatIsLeftInThisMinuteIsFree() {
        PodGuideway x = Check.ring(23, 0);
        x.pod(0);
        x.pod(1);
        x.send(0, 1);
        x.pass(1);
        x.send(1, 0);
        x.pass(1);
        Check.due("it went off at 0", Check.told(x, 0), "-1 1 1 -1 0 0");
        Check.due("into its slot at 0", Check.told(x, 1), "0 -1 -1 0 0 0");
    }

    @Says("the pod that is ready in the berth with the smallest number goes into it.")
    private static void step5ThreeReadyPodsMergeInThreeMinutes() {
        PodGuideway x = Edges.threeIdle();
        x.send(2, 1);
        x.send(0, 1);
        x.send(1, 1);
        for (int pod = 0; pod < 3; pod++) {
            Check.due("berths", x.station(0, 1), 3 - pod);
            x.pass(1);
            Check.due("merged", x.slot(0), pod);
        }
        Check.due("no berth is taken", x.station(0, 1), 0);
    }

    @Says("the pod that is ready in the berth with the smallest number goes into it.")
    private static void step5WhoComesInAndIsReadyAtOnceGoesInItsTurn() {
        // Two are ready; pod 3 comes into the free berth, ahead of them or behind, and is taken.
        for (int free = 0; free < 3; free += 2) {
            PodGuideway x = Check.ring(0, 23);
            x.pod(0);
            x.pod(0);
            x.pod(0);
            x.pod(1);
            x.send(free, 1);
            x.send(3, 0);
            x.pass(1);
            x.send(1, 1);
            x.send(2 - free, 1);
            x.ride(0, 1);
            x.pass(1);
            Check.due("who has merged", x.slot(0), free == 0 ? 3 : 0);
            Check.due("two are ready", Check.station(x, 0), "0 2 0 0 0 0 0");
        }
    }

    @Says("the pod that is ready in the berth with the smallest number goes into it.")
    private static void step5IdlePodsDoNotMerge() {
        PodGuideway x = Edges.threeIdle();
        x.send(2, 1);
        x.pass(1);
        Check.due("the only ready one, in the last berth", x.slot(0), 2);
        Check.due("two are idle", Check.station(x, 0), "0 2 2 0 0 0 0");
        x.pass(1);
        Check.due("no other", x.slot(0), -1);
    }

    @Says("the pod that is ready in the berth with the smallest number goes into it.")
    private static void step5StationsAtBothEndsMergeInOneMinute() {
        PodGuideway x = Check.ring(23, 0, 12);
        x.pod(0);
        x.pod(1);
        x.send(0, 2);
        x.send(1, 2);
        x.pass(1);
        Check.due("both", slots(x, 23, 0), "0 1");
    }

    // ---- step 6

    @Says("6. Each rider who waits has waited for a minute more.")
    private static void step6RidersWaitForAMinuteMore() {
        PodGuideway x = Edges.nineWait();
        Check.due("just come", x.waits(0, 8), 1);
        x.pass(1);
        for (int rider = 0; rider < 9; rider++) {
            Check.due("rider " + rider, x.waits(0, rider), 11);
        }
        Check.due("added", x.station(0, 5), 9);
    }

    @Says("6. Each rider who waits has waited for a minute more.")
    private static void step6RidersWhoCameInSeveralMinutes() {
        PodGuideway x = Check.ring(0, 7);
        for (int rider = 0; rider < 3; rider++) {
            x.ride(0, 1);
            x.pass(1);
        }
        Check.due("each", Check.row(x.waits(0, 0), x.waits(0, 1), x.waits(0, 2)), "31 21 11");
        x.pass(1);
        Check.due("a minute more", Check.row(x.waits(0, 0), x.waits(0, 1), x.waits(0, 2)),
                "41 31 21");
    }

    @Says("Each rider who waits has waited for a minute more.")
    private static void step6WhoGetsInDoesNotWaitForThisMinute() {
        PodGuideway x = Check.ring(0, 7);
        x.pod(0);
        x.ride(0, 1);
        x.pass(1);
        Check.due("got in at once", x.count(8), 0);
        PodGuideway y = Check.ring(0, 7);
        y.ride(0, 1);
        y.pass(1);
        y.pod(0);
        y.pass(1);
        Check.due("got in in the second minute", y.count(8), 1);
    }

    @Says("The minute is 1 greater.")
    private static void step6MinuteIs1Greater() {
        PodGuideway x = Edges.allFull();
        Check.due("before", x.count(0), 3);
        x.pass(1);
        Check.due("behind", x.count(0), 4);
    }

    // ---- exceptions

    @Says("A method that throws an exception changes nothing.")
    private static void refusedCallsChangeNothingOnAFullRing() {
        refusedEverywhere(Edges::allFull, 6, 12);
        Edges.refused("build", Edges.STATE, Edges::allFull, x -> x.build(1));
        Edges.refused("pod", Edges.STATE, Edges::allFull, x -> x.pod(0));
        Edges.refused("ride", Edges.STATE, Edges::allFull, x -> x.ride(5, 0));
        Edges.refused("ride to the same", Edges.ARGUMENT, Edges::allFull, x -> x.ride(5, 5));
        Edges.refused("send", Edges.STATE, Edges::allFull, x -> x.send(11, 0));
        Edges.refused("takes to the same", Edges.ARGUMENT, Edges::allFull, x -> x.takes(5, 5));
        Edges.refused("told", Edges.BOUNDS, Edges::allFull, x -> x.told(11, 6));
        Edges.refused("station", Edges.BOUNDS, Edges::allFull, x -> x.station(5, 7));
        Edges.refused("waits", Edges.BOUNDS, Edges::allFull, x -> x.waits(5, 9));
    }

    @Says("A method that throws an exception changes nothing.")
    private static void refusedCallsChangeNothingOnAnEmptyRing() {
        refusedEverywhere(Edges::empty, 0, 0);
    }

    private static void refusedEverywhere(Edges.Scene scene, int stations, int pods) {
        Edges.refused("build", Edges.BOUNDS, scene, x -> x.build(24));
        Edges.refused("pod", Edges.BOUNDS, scene, x -> x.pod(stations));
        Edges.refused("ride from", Edges.BOUNDS, scene, x -> x.ride(stations, 0));
        Edges.refused("ride to", Edges.BOUNDS, scene, x -> x.ride(0, stations));
        Edges.refused("send pod", Edges.BOUNDS, scene, x -> x.send(pods, 0));
        Edges.refused("send to", Edges.BOUNDS, scene, x -> x.send(0, stations));
        Edges.refused("told", Edges.BOUNDS, scene, x -> x.told(pods, 0));
        Edges.refused("station", Edges.BOUNDS, scene, x -> x.station(stations, 0));
        Edges.refused("waits", Edges.BOUNDS, scene, x -> x.waits(stations, 0));
        Edges.refused("slot", Edges.BOUNDS, scene, x -> x.slot(24));
        Edges.refused("count", Edges.BOUNDS, scene, x -> x.count(9));
        Edges.refused("pass", Edges.ARGUMENT, scene, x -> x.pass(101));
        Edges.refused("when", Edges.BOUNDS, scene, x -> x.when(pods));
        Edges.refused("takes from", Edges.BOUNDS, scene, x -> x.takes(stations, 0));
        Edges.refused("takes to", Edges.BOUNDS, scene, x -> x.takes(0, stations));
        Edges.refused("answers", Edges.BOUNDS, scene, x -> x.answers(stations));
        Edges.refused("foresee minutes", Edges.ARGUMENT, scene, x -> x.foresee(101, 3));
        Edges.refused("foresee what", Edges.BOUNDS, scene, x -> x.foresee(1, 8));
    }

    @Says("If several exceptions apply, the one that is named first is thrown.")
    private static void exceptionNamedFirstIsThrown() {
        Edges.Scene scene = Edges::allFull;
        Edges.refused("build: no place, 6 there", Edges.BOUNDS, scene, x -> x.build(24));
        Edges.refused("pod: no station, 12 there", Edges.BOUNDS, scene, x -> x.pod(6));
        Edges.refused("ride: no station, same", Edges.BOUNDS, scene, x -> x.ride(6, 6));
        Edges.refused("ride: no station, 9 wait", Edges.BOUNDS, scene, x -> x.ride(0, 6));
        Edges.refused("ride: same, 9 wait", Edges.ARGUMENT, scene, x -> x.ride(0, 0));
        Edges.refused("send: no station, not idle", Edges.BOUNDS, scene, x -> x.send(0, 6));
        Edges.refused("takes: no station, same", Edges.BOUNDS, scene, x -> x.takes(-1, -1));
        Edges.refused("foresee: minutes, what", Edges.ARGUMENT, scene, x -> x.foresee(0, 2));
    }

    // ---- what is read off

    private static String slots(PodGuideway x, int... places) {
        long[] found = new long[places.length];
        for (int i = 0; i < places.length; i++) {
            found[i] = x.slot(places[i]);
        }
        return Check.row(found);
    }

    private static String allSlots(PodGuideway x) {
        int[] places = new int[24];
        for (int place = 0; place < 24; place++) {
            places[place] = place;
        }
        return slots(x, places);
    }
}
