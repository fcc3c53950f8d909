import java.math.BigInteger;

/** The edges of promises 11 to 17: minutes, what would be, and sums. */
public final class EdgesAheadTest {
    private static final int LEAST = Integer.MIN_VALUE;
    private static final int MOST = Integer.MAX_VALUE;

    private EdgesAheadTest() {
    }

    public static void main(String[] args) {
        Tests.runAll(EdgesAheadTest.class);
    }

    // ---- promise 11

    @Says("Throws `IllegalArgumentException` if minutes is not 1 to 100")
    private static void promise11OneMinuteIsTheSmallest() {
        PodGuideway x = Edges.allFull();
        Check.due("arrivals", x.pass(1), 0);
        Check.due("minute", x.count(0), 4);
        for (int minutes : new int[] {0, -1, LEAST}) {
            Edges.refused("pass " + minutes, Edges.ARGUMENT, Edges::allFull, r -> r.pass(minutes));
        }
    }

    @Says("Throws `IllegalArgumentException` if minutes is not 1 to 100")
    private static void promise11AHundredMinutesAreTheLargest() {
        PodGuideway x = Edges.empty();
        Check.due("arrivals", x.pass(100), 0);
        Check.due("minute", x.count(0), 100);
        for (int minutes : new int[] {101, MOST}) {
            Edges.refused("pass " + minutes, Edges.ARGUMENT, Edges::allFull, r -> r.pass(minutes));
        }
    }

    @Says("Lets minutes go by.")
    private static void promise11AHundredMinutesAreAHundredTimesOne() {
        PodGuideway x = Edges.allFull();
        PodGuideway y = Edges.allFull();
        int arrived = 0;
        for (int minute = 0; minute < 100; minute++) {
            arrived += y.pass(1);
        }
        Check.due("arrivals", x.pass(100), arrived);
        Check.due("some arrive", arrived > 12);
        Check.due("digest", x.digest(), y.digest());
    }

    @Says("Returns how many riders arrive in them.")
    private static void promise11WhoArrivesInTheLastMinuteCounts() {
        PodGuideway x = oneRider();
        Check.due("a minute too few", x.pass(7), 0);
        PodGuideway y = oneRider();
        Check.due("the last minute", y.pass(8), 1);
        Check.due("who arrived before does not count", y.pass(100), 0);
        PodGuideway z = oneRider();
        z.pass(7);
        Check.due("the only minute", z.pass(1), 1);
    }

    @Says("Returns how many riders arrive in them.")
    private static void promise11EmptyPodsDoNotArrive() {
        PodGuideway x = onePod();
        x.send(0, 1);
        Check.due("arrivals", x.pass(100), 0);
    }

    @Says("Returns how many riders arrive in them.")
    private static void promise11TwoArriveInOneMinute() {
        PodGuideway x = Check.ring(22, 23, 10, 11);
        x.pod(0);
        x.pod(2);
        x.ride(0, 1);
        x.ride(2, 3);
        x.pass(1);
        Check.due("both", x.pass(1), 2);
    }

    /** An idle pod at station 0, seven places ahead of station 1. */
    private static PodGuideway onePod() {
        PodGuideway x = Check.ring(0, 7);
        x.pod(0);
        return x;
    }

    /** The rider arrives in the eighth minute. */
    private static PodGuideway oneRider() {
        PodGuideway x = onePod();
        x.ride(0, 1);
        return x;
    }

    // ---- promise 12

    @Says("Throws `IndexOutOfBoundsException` if there is no such pod")
    private static void promise12PodIsTheFirstOrTheLast() {
        PodGuideway x = Edges.fullRing();
        Check.due("pod 0", x.when(0), 21);
        Check.due("pod 11", x.when(11), 20);
        for (int pod : new int[] {-1, 12, LEAST, MOST}) {
            Edges.refused("pod " + pod, Edges.BOUNDS, Edges::fullRing, r -> r.when(pod));
        }
        Edges.refused("pod 1 of 1", Edges.BOUNDS, EdgesAheadTest::onePod, r -> r.when(1));
    }

    @Says("-1 if not by then, or if it has no goal (nothing is changed).")
    private static void promise12NoGoal() {
        PodGuideway x = onePod();
        Check.due("idle", x.when(0), -1);
        x.ride(0, 1);
        Check.due("idle, and a rider waits", x.when(0), -1);
        x.pass(7);
        Check.due("the minute ahead of its coming", x.when(0), 1);
        x.pass(1);
        Check.due("idle again", x.when(0), -1);
    }

    @Says("(1 for the next minute)")
    private static void promise12TheNextMinuteIs1() {
        for (int place = 0; place < 24; place++) {
            PodGuideway x = Check.ring(place, (place + 1) % 24);
            x.pod(0);
            x.send(0, 1);
            Check.due("ready, from " + place, x.when(0), 2);
            x.pass(1);
            Check.due("in its slot at " + place, x.when(0), 1);
        }
    }

    @Says("Returns in how many minutes it goes off into a berth of its goal")
    private static void promise12TwentyThreePlacesOnAre24Minutes() {
        for (int place = 0; place < 24; place++) {
            PodGuideway x = Check.ring(place, (place + 23) % 24);
            x.pod(0);
            x.send(0, 1);
            Check.due("ready, from " + place, x.when(0), 24);
            x.pass(1);
            Check.due("in its slot at " + place, x.when(0), 23);
        }
    }

    @Says("Returns in how many minutes it goes off into a berth of its goal")
    private static void promise12NotWhenItIsBarred() {
        PodGuideway x = Edges.barredNext();
        x.send(3, 0);
        Check.due("once round more", x.when(0), 25);
        x.pass(1);
        Check.due("at its goal, barred", x.when(0), 24);
        x.pass(23);
        Check.due("the next minute", x.when(0), 1);
    }

    @Says("Returns in how many minutes it goes off into a berth of its goal")
    private static void promise12AlsoWhenItIsTakenAgainInThatMinute() {
        PodGuideway x = oneRider();
        x.pass(7);
        x.ride(1, 0);
        Check.due("a rider gets in where it comes", x.when(0), 1);
        PodGuideway y = oneRider();
        y.pass(1);
        y.ride(0, 1);
        Check.due("it is called where it comes", y.when(0), 7);
    }

    @Says("if nothing is done, at most 200; -1 if not by then,")
    private static void promise12Never() {
        PodGuideway x = Edges.barredNext();
        Check.due("the berths stay full", x.when(0), -1);
        x.pass(100);
        x.pass(100);
        Check.due("it is barred still", Check.told(x, 0), "8 -1 -1 1 1 9");
    }

    @Says("if nothing is done, at most 200; -1 if not by then,")
    private static void promise12NinePodsGoByBeforeItMerges() {
        // Nine pods in a row go by, two of smaller berths go first, and it is 23 places on.
        PodGuideway x = Check.ring(0, 23, 15, 18, 21, 10);
        for (int pod = 0; pod < 12; pod++) {
            x.pod(pod < 3 ? 0 : 1 + pod / 3);
        }
        for (int pod = 3; pod < 12; pod++) {
            x.send(pod, 5);
        }
        x.pass(3);
        for (int pod = 0; pod < 3; pod++) {
            x.send(pod, 1);
        }
        for (int pod = 0; pod < 3; pod++) {
            Check.due("pod " + pod, x.when(pod), 33 + pod);
        }
        x.pass(34);
        Check.due("the minute ahead", Check.told(x, 2), "22 -1 -1 1 0 0");
        x.pass(1);
        Check.due("it has gone off", Check.told(x, 2), "-1 1 2 -1 0 0");
    }

    @Says("if nothing is done, at most 200; -1 if not by then,")
    private static void promise12BarredAfterAWholeRound() {
        // Pods 0, 2 and 4 come to station 0 just ahead of pod 6, and are called away behind it:
        // until then station 2, which is nearer to station 4, has pods that answer.
        PodGuideway x = Check.ring(0, 1, 12, 13, 18);
        for (int pod = 0; pod < 6; pod++) {
            x.pod(pod % 2 == 0 ? 1 : 3);
        }
        for (int pod = 0; pod < 6; pod++) {
            x.send(pod, pod % 2 == 0 ? 0 : 2);
        }
        x.pass(3);
        x.send(x.pod(1), 0);
        for (int rider = 0; rider < 9; rider++) {
            x.ride(4, 1);
        }
        Check.due("ready", x.when(6), 48);
        x.pass(24);
        Check.due("barred", Check.told(x, 6), "0 -1 -1 0 0 1");
        Check.due("a round more", x.when(6), 24);
        x.pass(24);
        Check.due("it has gone off", Check.told(x, 6), "-1 0 0 -1 0 1");
    }

    @Says("(nothing is changed)")
    private static void promise12ChangesNothing() {
        Edges.changesNothing("in a slot", Edges::allFull, x -> x.when(0));
        Edges.changesNothing("barred", Edges::barredNext, x -> x.when(0));
        Edges.changesNothing("without a goal", Edges::twelveIdle, x -> x.when(11));
    }

    // ---- promise 13

    @Says("Throws `IndexOutOfBoundsException` if there is no such station")
    private static void promise13FromStation0To5() {
        PodGuideway x = Edges.sixStations();
        x.pod(0);
        x.pod(5);
        Check.due("0 to 5", x.takes(0, 5), 24);
        Check.due("5 to 0", x.takes(5, 0), 2);
    }

    @Says("Throws `IndexOutOfBoundsException` if there is no such station")
    private static void promise13FromOrToIsNoStation() {
        for (int no : new int[] {-1, 6, LEAST, MOST}) {
            Edges.refused("from " + no, Edges.BOUNDS, Edges::twelveIdle, x -> x.takes(no, 0));
            Edges.refused("to " + no, Edges.BOUNDS, Edges::twelveIdle, x -> x.takes(0, no));
        }
        Edges.refused("from 2 of 2", Edges.BOUNDS, EdgesAheadTest::onePod, x -> x.takes(2, 0));
        Edges.refused("to 2 of 2", Edges.BOUNDS, EdgesAheadTest::onePod, x -> x.takes(0, 2));
    }

    @Says("Throws `IllegalArgumentException` if both are the same")
    private static void promise13BothAreTheSame() {
        for (int same : new int[] {0, 5}) {
            Edges.refused("both " + same, Edges.ARGUMENT, Edges::twelveIdle,
                    x -> x.takes(same, same));
        }
        Edges.refused("where 9 wait", Edges.ARGUMENT, Edges::nineWait, x -> x.takes(0, 0));
    }

    @Says("Throws `IndexOutOfBoundsException` if there is no such station")
    private static void promise13NoStationIsNamedFirst() {
        Edges.refused("both 6", Edges.BOUNDS, Edges::twelveIdle, x -> x.takes(6, 6));
        Edges.refused("both -1", Edges.BOUNDS, Edges::twelveIdle, x -> x.takes(-1, -1));
        Edges.refused("to nowhere where 9 wait", Edges.BOUNDS, Edges::nineWait,
                x -> x.takes(0, 2));
    }

    @Says("would arrive (1 for the next minute), if nothing else is done,")
    private static void promise13OnePlaceOnTakes2Minutes() {
        for (int place = 0; place < 24; place++) {
            PodGuideway x = Check.ring(place, (place + 1) % 24);
            x.pod(0);
            Check.due("from " + place, x.takes(0, 1), 2);
        }
    }

    @Says("Returns in how many minutes a rider who came now, as the last one there,")
    private static void promise13AsTheLastOneThere() {
        PodGuideway x = onePod();
        x.pod(0);
        Check.due("as the first, into berth 0", x.takes(0, 1), 8);
        x.ride(0, 1);
        Check.due("as the second, into berth 1", x.takes(0, 1), 9);
        x.ride(0, 1);
        // Both pods come round once: back in the minute 25, in which this one gets in.
        Check.due("as the third", x.takes(0, 1), 32);
        Check.due("two wait", x.station(0, 3), 2);
    }

    @Says("at most 200; -1 if not by then, or if 9 wait there (nothing is changed).")
    private static void promise13TwoHundredAreTheMost() {
        // The pod goes round and round, and the ninth gets in in the minute 193.
        PodGuideway x = eightWait(7);
        Check.due("the 200th minute", x.takes(0, 1), 200);
        PodGuideway y = eightWait(8);
        Check.due("the 201st minute", y.takes(0, 1), -1);
        y.pass(1);
        y.ride(0, 1);
        Check.due("the ninth, whom nobody asks about", y.station(0, 3), 8);
    }

    @Says("at most 200; -1 if not by then, or if 9 wait there (nothing is changed).")
    private static void promise13TheMinute199() {
        Check.due("a minute less", eightWait(6).takes(0, 1), 199);
    }

    private static PodGuideway eightWait(int place) {
        PodGuideway x = Check.ring(0, place);
        x.pod(0);
        for (int rider = 0; rider < 8; rider++) {
            x.ride(0, 1);
        }
        return x;
    }

    @Says("-1 if not by then, or if 9 wait there")
    private static void promise13NineWait() {
        PodGuideway x = Edges.nineWait();
        x.pod(0);
        x.pod(0);
        x.pod(0);
        Check.due("9 wait", x.takes(0, 1), -1);
        x.pass(1);
        Check.due("6 wait", x.takes(0, 1) > 0);
        PodGuideway y = Check.ring(0, 7);
        y.pod(0);
        y.pod(0);
        y.pod(0);
        for (int rider = 0; rider < 8; rider++) {
            y.ride(0, 1);
        }
        // The ninth gets into the third pod when it comes for the third time, 48 minutes on.
        Check.due("8 wait", y.takes(0, 1), 58);
    }

    @Says("-1 if not by then, or if 9 wait there")
    private static void promise13NineWaitWhereTheRiderWants() {
        PodGuideway x = Check.ring(0, 7);
        x.pod(0);
        for (int rider = 0; rider < 9; rider++) {
            x.ride(1, 0);
        }
        Check.due("no hindrance", x.takes(0, 1), 8);
    }

    @Says("-1 if not by then, or if 9 wait there")
    private static void promise13Never() {
        Check.due("no pod", Check.ring(0, 7).takes(0, 1), -1);
        PodGuideway x = Edges.barredNext();
        x.pod(0);
        Check.due("the berths stay full", x.takes(0, 1), -1);
    }

    @Says("(nothing is changed)")
    private static void promise13AskedAgainAnswersTheSame() {
        PodGuideway x = Check.ring(0, 3, 20);
        x.pod(0);
        x.pod(0);
        x.ride(0, 2);
        // The one ahead rides farther: who is asked about gets in behind and arrives before.
        for (int asked = 1; asked <= 3; asked++) {
            Check.due("near, asked " + asked, x.takes(0, 1), 5);
            Check.due("far, asked " + asked, x.takes(0, 2), 22);
            Check.due("from elsewhere, asked " + asked, x.takes(1, 2), 22);
        }
    }

    @Says("(nothing is changed)")
    private static void promise13ChangesNothing() {
        Edges.changesNothing("a ride", Edges::twelveIdle, x -> x.takes(0, 5));
        Edges.changesNothing("9 wait", Edges::allFull, x -> x.takes(0, 5));
        Edges.changesNothing("never", Edges::barredNext, x -> x.takes(0, 1));
        Edges.changesNothing("as the ninth", () -> eightWait(7), x -> x.takes(0, 1));
    }

    // ---- promise 14

    @Says("Throws `IndexOutOfBoundsException` if there is no such station")
    private static void promise14StationIsTheFirstOrTheLast() {
        PodGuideway x = Edges.twelveIdle();
        Check.due("station 0", x.answers(0), 3);
        Check.due("station 5", x.answers(5), 3);
        for (int station : new int[] {-1, 6, LEAST, MOST}) {
            Edges.refused("station " + station, Edges.BOUNDS, Edges::twelveIdle,
                    r -> r.answers(station));
        }
        Edges.refused("station 2 of 2", Edges.BOUNDS, EdgesAheadTest::onePod, r -> r.answers(2));
    }

    @Says("-1 if none would.")
    private static void promise14NoPods() {
        Check.due("a single station", Check.ring(5).answers(0), -1);
        Check.due("six stations", Edges.sixStations().answers(5), -1);
    }

    @Says("-1 if none would.")
    private static void promise14NoneIsIdle() {
        PodGuideway x = Check.ring(0, 7, 12);
        x.pod(0);
        Check.due("idle", x.answers(1), 0);
        x.send(0, 2);
        Check.due("ready", x.answers(1), -1);
        x.pass(1);
        Check.due("in a slot", x.answers(1), -1);
        x.pass(12);
        Check.due("idle elsewhere", x.answers(1), 2);
        Check.due("on a full ring", Edges.fullRing().answers(0), -1);
    }

    @Says("-1 if none would.")
    private static void promise14ItsOwnPodsDoNotAnswer() {
        PodGuideway x = onePod();
        Check.due("its own", x.answers(0), -1);
        Check.due("that of the other", x.answers(1), 0);
    }

    @Says("Returns the station that would answer, if it called now, as all is now")
    private static void promise14NotWhereSomebodyWaits() {
        PodGuideway x = Check.ring(0, 7, 12);
        x.pod(0);
        x.pod(0);
        x.pod(1);
        Check.due("nearer", x.answers(2), 1);
        x.ride(1, 0);
        Check.due("one waits there", x.answers(2), 0);
        x.ride(0, 1);
        Check.due("one waits at both, though two pods are idle", x.answers(2), -1);
        x.pass(1);
        Check.due("when they have got in", x.answers(2), 0);
    }

    @Says("(whether it would call or not);")
    private static void promise14WhetherItWouldCallOrNot() {
        PodGuideway x = onePod();
        Check.due("nobody waits there", x.answers(1), 0);
        x.ride(1, 0);
        Check.due("one waits there", x.answers(1), 0);
        x.pod(1);
        Check.due("a pod is idle there", x.answers(1), 0);
        x.pod(0);
        x.send(0, 1);
        Check.due("a pod comes there", x.answers(1), 0);
    }

    @Says("Returns the station that would answer, if it called now, as all is now")
    private static void promise14OnePlaceBehindAndTwentyThree() {
        for (int place = 0; place < 24; place++) {
            PodGuideway x = Check.ring((place + 1) % 24, place, (place + 23) % 24);
            x.pod(0);
            Check.due("23 places on to " + place, x.answers(1), 0);
            x.pod(2);
            Check.due("1 place on to " + place, x.answers(1), 2);
            x.send(1, 0);
            Check.due("23 places on to " + place + " again", x.answers(1), 0);
        }
    }

    @Says("Returns the station that would answer, if it called now, as all is now")
    private static void promise14NearestWhateverItsNumber() {
        int[][] orders = {{0, 1, 2}, {0, 2, 1}, {1, 0, 2}, {1, 2, 0}, {2, 0, 1}, {2, 1, 0}};
        int[] places = {22, 12, 5};
        for (int[] order : orders) {
            PodGuideway x = Check.ring(0);
            for (int near : order) {
                x.pod(x.build(places[near]));
            }
            for (int near = 0; near < 3; near++) {
                int nearest = 1;
                while (x.station(nearest, 0) != places[near]) {
                    nearest++;
                }
                Check.due("from " + places[near] + " to 0", x.answers(0), nearest);
                x.send(nearest - 1, 0);
            }
            Check.due("all are sent", x.answers(0), -1);
        }
    }

    @Says("Returns the station that would answer, if it called now, as all is now")
    private static void promise14ChangesNothing() {
        Edges.changesNothing("one answers", Edges::twelveIdle, x -> x.answers(5));
        Edges.changesNothing("none answers", Edges::allFull, x -> x.answers(0));
    }

    // ---- promise 15

    @Says("Throws `IllegalArgumentException` if minutes is not 1 to 100")
    private static void promise15MinutesAre1To100() {
        PodGuideway x = oneRider();
        Check.due("1 minute", x.foresee(1, 4), 1);
        Check.due("100 minutes", x.foresee(100, 5), 1);
        for (int minutes : new int[] {0, -1, 101, LEAST, MOST}) {
            Edges.refused("minutes " + minutes, Edges.ARGUMENT, EdgesAheadTest::oneRider,
                    r -> r.foresee(minutes, 3));
        }
    }

    @Says("Throws `IndexOutOfBoundsException` if what is none of these")
    private static void promise15WhatIs3To7() {
        PodGuideway x = oneRider();
        Check.due("what 3", x.foresee(1, 3), 0);
        Check.due("what 7", x.foresee(1, 7), 0);
        for (int what : new int[] {-1, 0, 1, 2, 8, 9, LEAST, MOST}) {
            Edges.refused("what " + what, Edges.BOUNDS, EdgesAheadTest::oneRider,
                    r -> r.foresee(1, what));
        }
    }

    @Says("Throws `IllegalArgumentException` if minutes is not 1 to 100")
    private static void promise15MinutesAreNamedAheadOfWhat() {
        for (int minutes : new int[] {0, 101}) {
            for (int what : new int[] {2, 8}) {
                Edges.refused(minutes + " and " + what, Edges.ARGUMENT, EdgesAheadTest::oneRider,
                        x -> x.foresee(minutes, what));
            }
        }
    }

    @Says("- `what`: 3, 4, 5, 6 or 7 as count() has it")
    private static void promise15AsCountHasItBehindThem() {
        Edges.Scene[] scenes = {Edges::empty, Edges::allFull, Edges::barredNext,
            EdgesAheadTest::oneRider, EdgesAheadTest::oneCalls};
        for (Edges.Scene scene : scenes) {
            for (int minutes : new int[] {1, 2, 8, 24, 99, 100}) {
                PodGuideway then = scene.make();
                then.pass(minutes);
                for (int what = 3; what <= 7; what++) {
                    Check.due("behind " + minutes + ", what " + what,
                            scene.make().foresee(minutes, what), then.count(what));
                }
            }
        }
    }

    private static PodGuideway oneCalls() {
        PodGuideway x = onePod();
        x.ride(1, 0);
        return x;
    }

    @Says("Returns this, behind so many minutes, if nothing is done (nothing is changed).")
    private static void promise15TheVeryMinute() {
        PodGuideway x = oneRider();
        Check.due("who waits, behind 1", x.foresee(1, 3), 0);
        Check.due("who rides, behind 7", x.foresee(7, 4), 1);
        Check.due("who arrived, behind 7", x.foresee(7, 5), 0);
        Check.due("who rides, behind 8", x.foresee(8, 4), 0);
        Check.due("who arrived, behind 8", x.foresee(8, 5), 1);
        Check.due("free slots, behind 7", x.foresee(7, 6), 23);
        Check.due("free slots, behind 8", x.foresee(8, 6), 24);
        Check.due("calls, behind 1", oneCalls().foresee(1, 7), 1);
        Check.due("now", Check.counts(x), "0 2 1 1 0 0 24 0 0");
    }

    @Says("(nothing is changed)")
    private static void promise15ChangesNothing() {
        Edges.changesNothing("a minute", Edges::allFull, x -> x.foresee(1, 3));
        Edges.changesNothing("a hundred", Edges::allFull, x -> x.foresee(100, 7));
        Edges.changesNothing("on an empty ring", Edges::empty, x -> x.foresee(100, 6));
    }

    // ---- promise 16

    @Says("Returns the mean of the minutes that all who wait have waited; 0 if nobody waits.")
    private static void promise16NobodyWaits() {
        Check.due("a new ring", Edges.empty().mean(), 0.0);
        Check.due("without riders", Edges.fullRing().mean(), 0.0);
        PodGuideway x = oneRider();
        x.pass(1);
        Check.due("the only one has got in", x.mean(), 0.0);
    }

    @Says("Returns the mean of the minutes that all who wait have waited; 0 if nobody waits.")
    private static void promise16OneWaits() {
        PodGuideway x = Check.ring(0, 7);
        x.ride(1, 0);
        Check.due("no minute", x.mean(), 0.0);
        x.pass(1);
        Check.due("a minute", x.mean(), 1.0);
        x.pass(100);
        Check.due("101 minutes", x.mean(), 101.0);
    }

    @Says("Returns the mean of the minutes that all who wait have waited; 0 if nobody waits.")
    private static void promise16MeanIsNotWhole() {
        PodGuideway x = Check.ring(0, 7);
        x.ride(0, 1);
        x.pass(1);
        x.ride(1, 0);
        Check.due("1 and 0", x.mean(), 0.5);
        x.ride(1, 0);
        Check.due("1, 0 and 0", x.mean(), 1.0 / 3.0);
        x.pass(1);
        Check.due("2, 1 and 1", x.mean(), 4.0 / 3.0);
    }

    @Says("Returns the mean of the minutes that all who wait have waited; 0 if nobody waits.")
    private static void promise16FiftyFourWait() {
        PodGuideway x = Edges.allFull();
        Check.due("just come", x.mean(), 0.0);
        x.pass(1);
        Check.due("a minute", x.mean(), 1.0);
        PodGuideway y = Edges.sixStations();
        for (int from = 0; from < 6; from++) {
            for (int rider = 0; rider < 9; rider++) {
                y.ride(from, from == 0 ? 1 : 0);
            }
            y.pass(1);
        }
        Check.due("6 to 1 minutes", y.mean(), 3.5);
    }

    // ---- promise 17

    @Says("A number d starts with 1399;")
    private static void promise17DigestOfAnEmptyRing() {
        digestIs("new", Edges::empty);
        digestIs("stations without pods and riders", Edges::sixStations);
    }

    @Says("for each station what station() tells, in its order, and what waits() tells of each "
            + "one who waits there; for each pod what told() tells; for each place what slot() "
            + "tells.")
    private static void promise17DigestOfAFullRing() {
        digestIs("six stations, twelve pods, 54 who wait", Edges::allFull);
        digestIs("twelve idle pods", Edges::twelveIdle);
        digestIs("nobody waits", Edges::fullRing);
        digestIs("nine wait at one", Edges::nineWait);
        digestIs("one is barred", () -> {
            PodGuideway x = Edges.barredNext();
            x.pass(1);
            return x;
        });
    }

    @Says("d becomes d * 31 + x, which wraps around as a 64-bit integer:")
    private static void promise17DigestWrapsAround() {
        Check.due("more than 64 bits", unwrapped(Edges.empty()).bitLength() > 64);
        boolean negative = false;
        boolean positive = false;
        for (int pods = 0; pods <= 12; pods++) {
            PodGuideway x = Edges.sixStations();
            for (int pod = 0; pod < pods; pod++) {
                x.pod(pod / 3);
            }
            Check.due("pods " + pods, x.digest(), unwrapped(x).longValue());
            negative = negative || x.digest() < 0;
            positive = positive || x.digest() > 0;
        }
        Check.due("on both sides of 0", negative && positive);
    }

    private static void digestIs(String what, Edges.Scene scene) {
        Check.due(what, scene.make().digest(), unwrapped(scene.make()).longValue());
    }

    /** What digest would be if a number could be of any length, from what the others tell. */
    private static BigInteger unwrapped(PodGuideway x) {
        BigInteger d = BigInteger.valueOf(1399);
        for (int what = 0; what <= 8; what++) {
            d = mixed(d, x.count(what));
        }
        for (int station = 0; station < x.count(1); station++) {
            for (int what = 0; what <= 6; what++) {
                d = mixed(d, x.station(station, what));
            }
            for (int rider = 0; rider < x.station(station, 3); rider++) {
                d = mixed(d, x.waits(station, rider));
            }
        }
        for (int pod = 0; pod < x.count(2); pod++) {
            for (int what = 0; what <= 5; what++) {
                d = mixed(d, x.told(pod, what));
            }
        }
        for (int place = 0; place <= 23; place++) {
            d = mixed(d, x.slot(place));
        }
        return d;
    }

    private static BigInteger mixed(BigInteger d, int x) {
        return d.multiply(BigInteger.valueOf(31)).add(BigInteger.valueOf(x));
    }

    @Says("Computes a checksum.")
    private static void promise17ChangesNothing() {
        Edges.changesNothing("on a full ring", Edges::allFull, x -> x.digest());
        Edges.changesNothing("mean beside it", Edges::allFull, x -> (long) x.mean());
    }
}
