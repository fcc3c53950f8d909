/** Promises 6 to 10: told, station, waits, slot and count. */
public final class TellingTest {
    private static final Class<?> BOUNDS = IndexOutOfBoundsException.class;

    private TellingTest() {
    }

    public static void main(String[] args) {
        Tests.runAll(TellingTest.class);
    }

    @Says({
        "- `pod`: a pod",
        "- `what`: 0 the place of its slot, -1 in a berth, 1 the station in whose berth it "
            + "is, -1 in a slot, 2 the berth, -1 in a slot, 3 its goal, -1 for none, 4 1 if it "
            + "has a rider, else 0,",
        "Returns this.",
        "Throws `IndexOutOfBoundsException` if there is no such pod, or what is not 0 to 5"
    })
    private static void promise6Told() {
        PodGuideway x = Check.ring(22, 2);
        x.pod(0);
        x.pod(0);
        x.ride(0, 1);
        Check.due("an idle pod", Check.told(x, 0), "-1 0 0 -1 0 0");
        x.send(1, 1);
        Check.due("a ready pod", Check.told(x, 1), "-1 0 1 1 0 0");
        x.pass(1);
        Check.due("a pod with a rider in a slot", Check.told(x, 0), "22 -1 -1 1 1 0");
        Check.due("a ready pod that lets one ahead", Check.told(x, 1), "-1 0 1 1 0 0");
        x.pass(1);
        Check.due("one place on", Check.told(x, 0), "23 -1 -1 1 1 0");
        Check.due("behind it", Check.told(x, 1), "22 -1 -1 1 0 0");
        x.pass(1);
        Check.due("behind 23 comes 0", Check.told(x, 0), "0 -1 -1 1 1 0");
        x.pass(2);
        Check.due("gone off", Check.told(x, 0), "-1 1 0 -1 0 0");
        Check.due("not yet gone off", Check.told(x, 1), "1 -1 -1 1 0 0");
        x.pass(1);
        Check.due("gone off into the next berth", Check.told(x, 1), "-1 1 1 -1 0 0");
        for (int pod : new int[] {-1, 2, 12, Integer.MIN_VALUE, Integer.MAX_VALUE}) {
            Check.refused(x, "told of pod " + pod, BOUNDS, () -> x.told(pod, 0));
        }
        for (int what : new int[] {-1, 6, Integer.MIN_VALUE, Integer.MAX_VALUE}) {
            Check.refused(x, "told what " + what, BOUNDS, () -> x.told(1, what));
        }
    }

    @Says("5 times in all that it could not go off for want of a berth")
    private static void promise6ToldOfBarredPods() {
        PodGuideway x = Check.ring(0, 1);
        x.pod(1);
        x.pod(1);
        x.pod(1);
        x.pod(0);
        x.send(3, 1);
        x.pass(1);
        Check.due("in its slot", Check.told(x, 3), "0 -1 -1 1 0 0");
        x.pass(1);
        Check.due("no berth for it", Check.told(x, 3), "1 -1 -1 1 0 1");
        x.pass(23);
        Check.due("once more round", Check.told(x, 3), "0 -1 -1 1 0 1");
        x.pass(1);
        Check.due("no berth again", Check.told(x, 3), "1 -1 -1 1 0 2");
        x.send(1, 0);
        x.pass(24);
        Check.due("it goes off at last", Check.told(x, 3), "-1 1 1 -1 0 2");
    }

    @Says({
        "- `station`: a station",
        "- `what`: 0 its place, 1 pods in its berths, 2 idle ones of these, 3 riders who "
            + "wait, 4 empty pods that have it as their goal, 5 minutes that all who wait there "
            + "have waited, added, 6 riders who arrived there in all",
        "Returns this.",
        "Throws `IndexOutOfBoundsException` if there is no such station, or what is not 0 "
            + "to 6"
    })
    private static void promise7Station() {
        PodGuideway x = Check.ring(5, 10);
        x.pod(0);
        x.pod(0);
        x.pod(0);
        x.send(0, 1);
        x.ride(1, 0);
        x.ride(1, 0);
        Check.due("one ready, two idle", Check.station(x, 0), "5 3 2 0 0 0 0");
        Check.due("one is sent, two wait", Check.station(x, 1), "10 0 0 2 1 0 0");
        x.pass(1);
        Check.due("one has gone, one is called", Check.station(x, 0), "5 2 1 0 0 0 0");
        Check.due("two come, two waited", Check.station(x, 1), "10 0 0 2 2 2 0");
        x.pass(4);
        Check.due("both are in slots", Check.station(x, 0), "5 1 1 0 0 0 0");
        Check.due("two waited on", Check.station(x, 1), "10 0 0 2 2 10 0");
        x.pass(1);
        Check.due("one rides", Check.station(x, 1), "10 0 0 1 1 6 0");
        x.pass(20);
        Check.due("both have arrived", Check.station(x, 0), "5 3 3 0 0 0 2");
        Check.due("the other is empty", Check.station(x, 1), "10 0 0 0 0 0 0");
        for (int station : new int[] {-1, 2, 6, Integer.MIN_VALUE, Integer.MAX_VALUE}) {
            Check.refused(x, "station " + station, BOUNDS, () -> x.station(station, 0));
        }
        for (int what : new int[] {-1, 7, Integer.MIN_VALUE, Integer.MAX_VALUE}) {
            Check.refused(x, "station what " + what, BOUNDS, () -> x.station(1, what));
        }
    }

    @Says({
        "- `station`: a station",
        "- `rider`: a place among those who wait there, from 0",
        "Returns 10 * the minutes that this rider has waited, and the station where this "
            + "one wants to go, added.",
        "Throws `IndexOutOfBoundsException` if there is no such station or rider"
    })
    private static void promise8Waits() {
        PodGuideway x = Check.ring(5, 10, 15);
        x.ride(0, 2);
        Check.due("just come", x.waits(0, 0), 2);
        x.pass(3);
        x.ride(0, 1);
        Check.due("three minutes", x.waits(0, 0), 32);
        Check.due("the second", x.waits(0, 1), 1);
        x.pass(100);
        Check.due("a hundred more", x.waits(0, 0), 1032);
        Check.due("a hundred", x.waits(0, 1), 1001);
        x.pod(0);
        x.pass(1);
        Check.due("the second is the first then", x.waits(0, 0), 1011);
        Check.refused(x, "a rider too many", BOUNDS, () -> x.waits(0, 1));
        Check.refused(x, "rider -1", BOUNDS, () -> x.waits(0, -1));
        Check.refused(x, "rider 9", BOUNDS, () -> x.waits(0, 9));
        Check.refused(x, "a rider where none waits", BOUNDS, () -> x.waits(1, 0));
        Check.refused(x, "station -1", BOUNDS, () -> x.waits(-1, 0));
        Check.refused(x, "station 3", BOUNDS, () -> x.waits(3, 0));
        Check.refused(x, "far out", BOUNDS,
                () -> x.waits(Integer.MAX_VALUE, Integer.MIN_VALUE));
    }

    @Says({
        "- `place`: a place",
        "Returns the pod in the slot there; -1 if it is free.",
        "Throws `IndexOutOfBoundsException` if place is not 0 to 23"
    })
    private static void promise9Slot() {
        PodGuideway x = Check.ring(23, 1);
        x.pod(0);
        x.pod(1);
        x.send(0, 1);
        x.send(1, 0);
        Check.due("ready pods are in no slot", x.slot(23), -1);
        x.pass(1);
        Check.due("pod 0", x.slot(23), 0);
        Check.due("pod 1", x.slot(1), 1);
        Check.due("between them", x.slot(0), -1);
        x.pass(1);
        Check.due("behind 23 comes 0", x.slot(0), 0);
        Check.due("it is left", x.slot(23), -1);
        Check.due("pod 1 one on", x.slot(2), 1);
        x.pass(1);
        Check.due("gone off", x.slot(1), -1);
        for (int place : new int[] {-1, 24, Integer.MIN_VALUE, Integer.MAX_VALUE}) {
            Check.refused(x, "slot " + place, BOUNDS, () -> x.slot(place));
        }
    }

    @Says({
        "- `what`: 0 the minute, 1 stations, 2 pods, 3 riders who wait, 4 riders in pods, "
            + "5 riders who arrived in all, 6 free slots, 7 calls that were answered in all, 8 "
            + "minutes that all who got into a pod had waited, added",
        "Returns this.",
        "Throws `IndexOutOfBoundsException` if what is not 0 to 8"
    })
    private static void promise10Count() {
        PodGuideway x = Check.ring(0, 3);
        x.pod(0);
        x.ride(0, 1);
        x.ride(0, 1);
        x.ride(1, 0);
        Check.due("three wait", Check.counts(x), "0 2 1 3 0 0 24 0 0");
        x.pass(1);
        Check.due("one rides", Check.counts(x), "1 2 1 2 1 0 23 0 0");
        x.pass(2);
        Check.due("two minutes more", Check.counts(x), "3 2 1 2 1 0 23 0 0");
        x.pass(1);
        // It goes off, and the rider of station 1, who has waited for 3 minutes, gets in.
        Check.due("one has arrived, one rides", Check.counts(x), "4 2 1 1 1 1 23 0 3");
        x.pass(21);
        // Round to station 0, where the last one has waited for 24 minutes.
        Check.due("the last rides", Check.counts(x), "25 2 1 0 1 2 23 0 27");
        x.pass(3);
        Check.due("all have arrived", Check.counts(x), "28 2 1 0 0 3 24 0 27");
        x.ride(0, 1);
        x.pass(1);
        Check.due("a call is answered", Check.counts(x), "29 2 1 1 0 3 23 1 27");
        for (int what : new int[] {-1, 9, Integer.MIN_VALUE, Integer.MAX_VALUE}) {
            Check.refused(x, "count " + what, BOUNDS, () -> x.count(what));
        }
    }
}
