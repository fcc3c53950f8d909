/** The edges of promises 6 to 10: told, station, waits, slot and count. */
public final class EdgesOfTellingTest {
    private static final int LEAST = Integer.MIN_VALUE;
    private static final int MOST = Integer.MAX_VALUE;

    private EdgesOfTellingTest() {
    }

    public static void main(String[] args) {
        Tests.runAll(EdgesOfTellingTest.class);
    }

    // ---- promise 6

    @Says("Throws `IndexOutOfBoundsException` if there is no such pod, or what is not 0 to 5")
    private static void promise6PodIsTheFirstOrTheLast() {
        PodGuideway x = Edges.twelveIdle();
        Check.due("pod 0", Check.told(x, 0), "-1 0 0 -1 0 0");
        Check.due("pod 11", Check.told(x, 11), "-1 3 2 -1 0 0");
        for (int pod : new int[] {-1, 12, LEAST, MOST}) {
            Edges.refused("pod " + pod, Edges.BOUNDS, Edges::twelveIdle, r -> r.told(pod, 0));
        }
        Edges.refused("pod 1 of 1", Edges.BOUNDS, EdgesOfTellingTest::onePod, r -> r.told(1, 0));
    }

    @Says("Throws `IndexOutOfBoundsException` if there is no such pod, or what is not 0 to 5")
    private static void promise6WhatIs0To5() {
        PodGuideway x = onePod();
        Check.due("what 0", x.told(0, 0), -1);
        Check.due("what 5", x.told(0, 5), 0);
        for (int what : new int[] {-1, 6, LEAST, MOST}) {
            Edges.refused("what " + what, Edges.BOUNDS, EdgesOfTellingTest::onePod,
                    r -> r.told(0, what));
        }
        Edges.refused("neither", Edges.BOUNDS, EdgesOfTellingTest::onePod, r -> r.told(1, 6));
    }

    private static PodGuideway onePod() {
        PodGuideway x = Check.ring(23, 0);
        x.pod(0);
        return x;
    }

    @Says("0 the place of its slot, -1 in a berth,")
    private static void promise6PlaceIs0To23() {
        PodGuideway x = onePod();
        x.pod(1);
        x.pod(1);
        x.pod(1);
        x.send(0, 1);
        Check.due("in a berth, ready", x.told(0, 0), -1);
        x.pass(1);
        Check.due("the largest", x.told(0, 0), 23);
        x.pass(1);
        Check.due("the smallest", x.told(0, 0), 0);
        for (int place = 1; place < 24; place++) {
            x.pass(1);
            Check.due("place " + place, x.told(0, 0), place);
        }
    }

    @Says("1 the station in whose berth it is, -1 in a slot,")
    private static void promise6StationIs0To5() {
        PodGuideway x = Edges.sixStations();
        x.pod(0);
        x.pod(5);
        Check.due("the smallest", x.told(0, 1), 0);
        Check.due("the largest", x.told(1, 1), 5);
        x.send(0, 5);
        Check.due("ready", x.told(0, 1), 0);
        x.pass(1);
        Check.due("in a slot", x.told(0, 1), -1);
        x.pass(23);
        Check.due("there", x.told(0, 1), 5);
    }

    @Says("2 the berth, -1 in a slot,")
    private static void promise6BerthIs0To2() {
        PodGuideway x = Edges.twelveIdle();
        for (int pod = 0; pod < 12; pod++) {
            Check.due("berth of pod " + pod, x.told(pod, 2), pod % 3);
        }
        PodGuideway y = Edges.fullRing();
        for (int pod = 0; pod < 12; pod++) {
            Check.due("berth of pod in a slot " + pod, y.told(pod, 2), -1);
        }
    }

    @Says("3 its goal, -1 for none,")
    private static void promise6GoalIs0To5() {
        PodGuideway x = Edges.sixStations();
        x.pod(0);
        x.pod(5);
        Check.due("none", x.told(0, 3), -1);
        x.send(0, 5);
        x.send(1, 0);
        Check.due("the largest", x.told(0, 3), 5);
        Check.due("the smallest", x.told(1, 3), 0);
        x.pass(1);
        Check.due("in a slot", x.told(1, 3), 0);
        x.pass(1);
        Check.due("none again", x.told(1, 3), -1);
    }

    @Says("4 1 if it has a rider, else 0,")
    private static void promise6RiderIs0Or1() {
        PodGuideway x = onePod();
        x.ride(0, 1);
        Check.due("not yet in", x.told(0, 4), 0);
        x.pass(1);
        Check.due("in", x.told(0, 4), 1);
        x.pass(1);
        Check.due("arrived", x.told(0, 4), 0);
    }

    @Says("4 1 if it has a rider, else 0,")
    private static void promise6VeryFirstRiderIsARider() {
        PodGuideway x = Check.ring(0, 12);
        x.pod(0);
        x.pod(0);
        x.ride(0, 1);
        x.ride(0, 1);
        x.pass(1);
        Check.due("the first", x.told(0, 4), 1);
        Check.due("the second, ready", x.told(1, 4), 1);
    }

    @Says("5 times in all that it could not go off for want of a berth")
    private static void promise6TimesBarredAre0AndMore() {
        PodGuideway x = Edges.barredNext();
        Check.due("not yet", x.told(0, 5), 0);
        for (int times = 1; times <= 5; times++) {
            x.pass(1);
            Check.due("times", x.told(0, 5), times);
            x.pass(23);
            Check.due("no more on the way", x.told(0, 5), times);
        }
        x.send(1, 0);
        x.pass(25);
        Check.due("off", Check.told(x, 0), "-1 1 0 -1 0 6");
        x.send(0, 0);
        x.pass(30);
        Check.due("in all, at the next station", x.told(0, 5), 6);
    }

    // ---- promise 7

    @Says("Throws `IndexOutOfBoundsException` if there is no such station, or what is not 0 to 6")
    private static void promise7StationIsTheFirstOrTheLast() {
        PodGuideway x = Edges.sixStations();
        Check.due("station 0", Check.station(x, 0), "0 0 0 0 0 0 0");
        Check.due("station 5", Check.station(x, 5), "23 0 0 0 0 0 0");
        for (int station : new int[] {-1, 6, LEAST, MOST}) {
            Edges.refused("station " + station, Edges.BOUNDS, Edges::sixStations,
                    r -> r.station(station, 0));
        }
        Edges.refused("station 2 of 2", Edges.BOUNDS, EdgesOfTellingTest::onePod,
                r -> r.station(2, 0));
    }

    @Says("Throws `IndexOutOfBoundsException` if there is no such station, or what is not 0 to 6")
    private static void promise7WhatIs0To6() {
        PodGuideway x = onePod();
        Check.due("what 0", x.station(0, 0), 23);
        Check.due("what 6", x.station(0, 6), 0);
        for (int what : new int[] {-1, 7, LEAST, MOST}) {
            Edges.refused("what " + what, Edges.BOUNDS, EdgesOfTellingTest::onePod,
                    r -> r.station(1, what));
        }
        Edges.refused("neither", Edges.BOUNDS, EdgesOfTellingTest::onePod, r -> r.station(2, 7));
    }

    @Says("0 its place,")
    private static void promise7PlaceIs0To23() {
        PodGuideway x = Check.ring(23, 0);
        Check.due("the largest", x.station(0, 0), 23);
        Check.due("the smallest", x.station(1, 0), 0);
    }

    @Says("1 pods in its berths, 2 idle ones of these,")
    private static void promise7PodsAre0To3() {
        PodGuideway x = Check.ring(0, 12);
        for (int pods = 0; pods <= 3; pods++) {
            Check.due("pods and idle ones", Check.row(x.station(0, 1), x.station(0, 2)),
                    pods + " " + pods);
            if (pods < 3) {
                x.pod(0);
            }
        }
        for (int sent = 0; sent < 3; sent++) {
            x.send(sent, 1);
            Check.due("ready ones are no idle ones", Check.row(x.station(0, 1), x.station(0, 2)),
                    "3 " + (2 - sent));
        }
        for (int gone = 1; gone <= 3; gone++) {
            x.pass(1);
            Check.due("one merges", x.station(0, 1), 3 - gone);
        }
        x.pass(9);
        for (int come = 0; come <= 3; come++) {
            Check.due("they come", Check.row(x.station(1, 1), x.station(1, 2)), come + " " + come);
            x.pass(1);
        }
    }

    @Says("3 riders who wait,")
    private static void promise7RidersAre0To9() {
        PodGuideway x = Check.ring(0, 12);
        for (int riders = 0; riders <= 9; riders++) {
            Check.due("riders", x.station(0, 3), riders);
            if (riders < 9) {
                x.ride(0, 1);
            }
        }
        Check.due("none at the other", x.station(1, 3), 0);
    }

    @Says("4 empty pods that have it as their goal,")
    private static void promise7EmptyPodsAre0To12() {
        PodGuideway x = Edges.twelveIdle();
        for (int sent = 0; sent < 12; sent++) {
            Check.due("sent so far", x.station(5, 4), sent);
            x.send(sent, 5);
        }
        Check.due("all, in berths", x.station(5, 4), 12);
        x.pass(4);
        Check.due("all, in slots too", x.station(5, 4), 12);
        x.pass(100);
        Check.due("nine go round, three have gone off", x.station(5, 4), 9);
        Check.due("these three", x.station(5, 2), 3);
    }

    @Says("4 empty pods that have it as their goal,")
    private static void promise7PodWithARiderIsNotEmpty() {
        PodGuideway x = onePod();
        x.ride(0, 1);
        x.pass(1);
        Check.due("it has it as its goal", x.told(0, 3), 1);
        Check.due("empty ones", x.station(1, 4), 0);
    }

    @Says("5 minutes that all who wait there have waited, added,")
    private static void promise7MinutesAreAdded() {
        PodGuideway x = Check.ring(0, 12);
        Check.due("nobody waits", x.station(0, 5), 0);
        x.pass(7);
        Check.due("minutes ahead of their coming", x.station(0, 5), 0);
        for (int riders = 1; riders <= 9; riders++) {
            x.ride(0, 1);
            x.pass(1);
            Check.due("riders " + riders, x.station(0, 5), riders * (riders + 1) / 2);
        }
        x.pod(0);
        x.pass(1);
        Check.due("the first, who waited for 9, has gone", x.station(0, 5), 36 + 8);
    }

    @Says("6 riders who arrived there in all")
    private static void promise7ArrivalsAre0AndMore() {
        PodGuideway x = onePod();
        Check.due("none", x.station(1, 6), 0);
        for (int arrived = 1; arrived <= 3; arrived++) {
            x.ride(0, 1);
            x.pass(26);
            Check.due("arrived", x.station(1, 6), arrived);
        }
        Check.due("none where they came from", x.station(0, 6), 0);
        x.send(0, 0);
        x.pass(30);
        Check.due("an empty pod brings nobody", x.station(0, 6), 0);
    }

    // ---- promise 8

    @Says("Throws `IndexOutOfBoundsException` if there is no such station or rider")
    private static void promise8StationIsTheFirstOrTheLast() {
        PodGuideway x = Edges.allFull();
        Check.due("station 0", x.waits(0, 0), 1);
        Check.due("station 5", x.waits(5, 0), 0);
        for (int station : new int[] {-1, 6, LEAST, MOST}) {
            Edges.refused("station " + station, Edges.BOUNDS, Edges::allFull,
                    r -> r.waits(station, 0));
        }
        Edges.refused("station 2 of 2", Edges.BOUNDS, Edges::nineWait, r -> r.waits(2, 0));
    }

    @Says("Throws `IndexOutOfBoundsException` if there is no such station or rider")
    private static void promise8RiderIsTheFirstOrTheNinth() {
        PodGuideway x = Edges.nineWait();
        Check.due("the first", x.waits(0, 0), 1);
        Check.due("the ninth", x.waits(0, 8), 1);
        for (int rider : new int[] {-1, 9, LEAST, MOST}) {
            Edges.refused("rider " + rider, Edges.BOUNDS, Edges::nineWait,
                    r -> r.waits(0, rider));
        }
        Edges.refused("neither", Edges.BOUNDS, Edges::nineWait, r -> r.waits(2, 9));
    }

    @Says("- `rider`: a place among those who wait there, from 0")
    private static void promise8PlacesAre0To8() {
        PodGuideway x = Edges.sixStations();
        int[] wanted = {5, 4, 3, 2, 1, 1, 2, 3, 5};
        for (int to : wanted) {
            x.ride(0, to);
            x.pass(1);
        }
        for (int rider = 0; rider < 9; rider++) {
            Check.due("rider " + rider, x.waits(0, rider), 10 * (9 - rider) + wanted[rider]);
        }
    }

    @Says("- `station`: a station")
    private static void promise8EachStationHasRidersOfItsOwn() {
        PodGuideway x = Edges.sixStations();
        for (int station = 0; station < 6; station++) {
            x.ride(station, (station + 1) % 6);
            x.pass(1);
            x.ride(station, (station + 5) % 6);
        }
        for (int station = 0; station < 6; station++) {
            int minutes = 6 - station;
            Check.due("the first at " + station, x.waits(station, 0),
                    10 * minutes + (station + 1) % 6);
            Check.due("the second at " + station, x.waits(station, 1),
                    10 * (minutes - 1) + (station + 5) % 6);
        }
    }

    @Says("Throws `IndexOutOfBoundsException` if there is no such station or rider")
    private static void promise8NobodyWaits() {
        Edges.refused("the first of nobody", Edges.BOUNDS, Edges::nineWait, x -> x.waits(1, 0));
        Edges.refused("the one ahead", Edges.BOUNDS, Edges::nineWait, x -> x.waits(1, -1));
    }

    @Says("Throws `IndexOutOfBoundsException` if there is no such station or rider")
    private static void promise8OneHasGone() {
        Edges.Scene eight = () -> {
            PodGuideway x = Edges.nineWait();
            x.pod(0);
            x.pass(1);
            return x;
        };
        PodGuideway x = eight.make();
        Check.due("the eighth", x.waits(0, 7), 11);
        Edges.refused("the ninth, who was", Edges.BOUNDS, eight, r -> r.waits(0, 8));
        Edges.Scene none = () -> {
            PodGuideway r = onePod();
            r.ride(0, 1);
            r.pass(1);
            return r;
        };
        Edges.refused("the first, who was", Edges.BOUNDS, none, r -> r.waits(0, 0));
    }

    @Says("Returns 10 * the minutes that this rider has waited, and the station where this one "
            + "wants to go, added.")
    private static void promise8AnswersFrom0On() {
        PodGuideway x = Edges.sixStations();
        x.ride(1, 0);
        x.ride(1, 5);
        Check.due("no minute, station 0", x.waits(1, 0), 0);
        Check.due("no minute, station 5", x.waits(1, 1), 5);
        x.pass(1);
        Check.due("a minute, station 0", x.waits(1, 0), 10);
        Check.due("a minute, station 5", x.waits(1, 1), 15);
        x.pass(100);
        Check.due("101 minutes", x.waits(1, 1), 1015);
        x.ride(1, 5);
        Check.due("who comes late", x.waits(1, 2), 5);
    }

    // ---- promise 9

    @Says("Throws `IndexOutOfBoundsException` if place is not 0 to 23")
    private static void promise9Place0IsTheSmallest() {
        Check.due("free", Edges.empty().slot(0), -1);
        Edges.refused("the place ahead", Edges.BOUNDS, Edges::fullRing, x -> x.slot(-1));
        Edges.refused("the smallest int", Edges.BOUNDS, Edges::fullRing, x -> x.slot(LEAST));
    }

    @Says("Throws `IndexOutOfBoundsException` if place is not 0 to 23")
    private static void promise9Place23IsTheLargest() {
        Check.due("free", Edges.empty().slot(23), -1);
        Edges.refused("the place behind", Edges.BOUNDS, Edges::fullRing, x -> x.slot(24));
        Edges.refused("the largest int", Edges.BOUNDS, Edges::fullRing, x -> x.slot(MOST));
    }

    @Says("Returns the pod in the slot there; -1 if it is free.")
    private static void promise9PodIs0To11() {
        PodGuideway x = Edges.fullRing();
        Check.due("pod 0", x.slot(2), 0);
        Check.due("pod 11", x.slot(12), 11);
        Check.due("free between", x.slot(3), -1);
        Check.due("free at the end", x.slot(23), -1);
    }

    @Says("Returns the pod in the slot there; -1 if it is free.")
    private static void promise9PodInABerthThereIsInNoSlot() {
        PodGuideway x = onePod();
        Check.due("idle", x.slot(23), -1);
        x.send(0, 1);
        Check.due("ready", x.slot(23), -1);
        x.pass(1);
        Check.due("merged", x.slot(23), 0);
        x.pass(1);
        Check.due("left", x.slot(23), -1);
        Check.due("gone off at once", x.slot(0), -1);
    }

    // ---- promise 10

    @Says("Throws `IndexOutOfBoundsException` if what is not 0 to 8")
    private static void promise10WhatIs0To8() {
        PodGuideway x = Edges.allFull();
        Check.due("what 0", x.count(0), 3);
        Check.due("what 8", x.count(8), 0);
        for (int what : new int[] {-1, 9, LEAST, MOST}) {
            Edges.refused("what " + what, Edges.BOUNDS, Edges::allFull, r -> r.count(what));
        }
    }

    @Says("0 the minute, 1 stations, 2 pods, 3 riders who wait, 4 riders in pods,")
    private static void promise10CountsOfAnEmptyAndAFullRing() {
        Check.due("empty", Check.counts(Edges.empty()), "0 0 0 0 0 0 24 0 0");
        Check.due("full", Check.counts(Edges.allFull()), "3 6 12 54 0 0 12 0 0");
    }

    @Says("3 riders who wait, 4 riders in pods, 5 riders who arrived in all, 6 free slots,")
    private static void promise10TwelveRidersInPods() {
        PodGuideway x = Edges.twelveIdle();
        for (int pod = 0; pod < 12; pod++) {
            x.ride(pod / 3, pod < 3 ? 5 : pod / 3 - 1);
        }
        Check.due("all wait", Check.counts(x), "0 6 12 12 0 0 24 0 0");
        x.pass(1);
        Check.due("all are in, four have merged", Check.counts(x), "1 6 12 0 12 0 20 0 0");
        x.pass(2);
        Check.due("all have merged", Check.counts(x), "3 6 12 0 12 0 12 0 0");
        x.pass(17);
        Check.due("the last minute ahead", Check.counts(x), "20 6 12 0 12 0 12 0 0");
        x.pass(6);
        Check.due("all have arrived", Check.counts(x), "26 6 12 0 0 12 24 0 0");
    }

    @Says("7 calls that were answered in all,")
    private static void promise10CallsOfAllStationsAreAdded() {
        PodGuideway x = Edges.twelveIdle();
        for (int rider = 0; rider < 3; rider++) {
            x.ride(4, 0);
            x.ride(5, 0);
        }
        for (int minute = 1; minute <= 3; minute++) {
            x.pass(1);
            Check.due("two more in minute " + minute, x.count(7), 2 * minute);
        }
        x.send(0, 4);
        x.pass(20);
        Check.due("who is sent is not called", x.count(7), 6);
    }

    @Says("7 calls that were answered in all, 8 minutes that all who got into a pod had waited, "
            + "added")
    private static void promise10CallsAndMinutesAreKept() {
        PodGuideway x = Check.ring(0, 12);
        x.ride(0, 1);
        x.pass(5);
        Check.due("called in vain", Check.counts(x), "5 2 0 1 0 0 24 0 0");
        x.pod(1);
        x.pass(12);
        Check.due("answered", Check.counts(x), "17 2 1 1 0 0 23 1 0");
        x.pass(1);
        Check.due("in", Check.counts(x), "18 2 1 0 1 0 23 1 17");
        x.pass(12);
        Check.due("kept when all have arrived", Check.counts(x), "30 2 1 0 0 1 24 1 17");
    }
}
