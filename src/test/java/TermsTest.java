/** What stands ahead of the promises: the ring in short, and the order of the six steps. */
public final class TermsTest {
    private TermsTest() {
    }

    public static void main(String[] args) {
        Tests.runAll(TermsTest.class);
    }

    // ---- what it is

    @Says("Personal pods on a ring of guideway.")
    private static void podsArePersonalAndGoRound() {
        PodGuideway x = Check.ring(21, 2);
        x.pod(0);
        x.pod(0);
        x.ride(0, 1);
        x.ride(0, 1);
        x.pass(2);
        Check.due("a pod of its own for the first", Check.told(x, 0), "22 -1 -1 1 1 0");
        Check.due("a pod of its own for the second", Check.told(x, 1), "21 -1 -1 1 1 0");
        Check.due("over the end of the ring, both arrive", x.pass(5), 2);
    }

    @Says("what later calls answer is free.")
    private static void callsBehindThe512thEndAsTheOthers() {
        PodGuideway x = Edges.allFull();
        for (int made = 0; made < 2000; made++) {
            x.pass(100);
        }
        for (int what = -1; what <= 9; what++) {
            endsWell(x, "count", 0, what);
        }
        endsWell(x, "digest", 0, 0);
        for (int number = -1; number <= 12; number++) {
            for (int what = -1; what <= 7; what++) {
                endsWell(x, "told", number, what);
                endsWell(x, "station", number, what);
                endsWell(x, "waits", number, what);
                endsWell(x, "ride", number, what);
                endsWell(x, "send", number, what);
                endsWell(x, "takes", number, what);
            }
            endsWell(x, "when", number, 0);
            endsWell(x, "answers", number, 0);
        }
    }

    /** Nothing is due but an end: an answer, or an exception of the very classes of the face. */
    private static void endsWell(PodGuideway x, String call, int a, int b) {
        String got = Edges.answer(x, r -> callOf(r, call, a, b));
        Check.due(call + "(" + a + ", " + b + ") ends with " + got, got.matches("-?\\d+"
                + "|java.lang.(IndexOutOfBounds|IllegalArgument|IllegalState)Exception"));
    }

    private static long callOf(PodGuideway x, String call, int a, int b) {
        switch (call) {
            case "count": return x.count(b);
            case "told": return x.told(a, b);
            case "station": return x.station(a, b);
            case "waits": return x.waits(a, b);
            case "ride": return x.ride(a, b);
            case "send": return x.send(a, b);
            case "takes": return x.takes(a, b);
            case "when": return x.when(a);
            case "answers": return x.answers(a);
            default: return x.digest();
        }
    }

    // ---- the ring in short

    @Says("The ring has places past which slots go, one place a minute;")
    private static void slotsGoOnePlaceAMinute() {
        PodGuideway x = Check.ring(4, 20);
        x.pod(0);
        x.send(0, 1);
        for (int minute = 1; minute <= 16; minute++) {
            x.pass(1);
            Check.due("place in minute " + minute, x.told(0, 0), 3 + minute);
        }
        Check.due("the slot it has left", x.slot(18), -1);
        Check.due("the slot it is in", x.slot(19), 0);
    }

    @Says("a pod runs in a slot from one station to another one, goes off into a berth, if one "
            + "is free, or round once more;")
    private static void podGoesOffOrRoundOnceMore() {
        PodGuideway x = Check.ring(4, 10);
        for (int pod = 0; pod < 3; pod++) {
            x.pod(1);
        }
        x.pod(0);
        x.send(3, 1);
        x.pass(7);
        Check.due("no berth is free", Check.told(x, 3), "10 -1 -1 1 0 1");
        x.send(0, 0);
        x.pass(23);
        Check.due("round once more", Check.told(x, 3), "9 -1 -1 1 0 1");
        x.pass(1);
        Check.due("into the berth that is free", Check.told(x, 3), "-1 1 0 -1 0 1");
        Check.due("the other one", Check.told(x, 0), "-1 0 0 -1 0 0");
    }

    @Says("riders wait at stations, and get into empty pods;")
    private static void ridersWaitAndGetIntoEmptyPods() {
        PodGuideway x = Check.ring(4, 10, 16);
        x.ride(0, 1);
        x.ride(0, 2);
        x.pass(3);
        Check.due("two wait", Check.counts(x), "3 3 0 2 0 0 24 0 0");
        x.pod(0);
        x.pass(1);
        Check.due("one rides", Check.counts(x), "4 3 1 1 1 0 23 0 3");
        Check.due("the other waits on", x.waits(0, 0), 42);
    }

    @Says("a pod that is ready merges into a slot that is free;")
    private static void readyPodMergesIntoAFreeSlot() {
        PodGuideway x = Check.ring(4, 10);
        x.pod(0);
        x.pod(0);
        x.send(1, 1);
        x.pass(1);
        Check.due("the ready one", x.slot(4), 1);
        Check.due("the idle one stays", Check.told(x, 0), "-1 0 0 -1 0 0");
    }

    @Says("where riders wait and no empty pod is, one is called from another station;")
    private static void podIsCalledWhereNoEmptyOneIs() {
        PodGuideway x = Check.ring(4, 10);
        x.pod(0);
        x.pod(0);
        x.pod(1);
        x.ride(1, 0);
        x.pass(1);
        Check.due("an empty pod was there", x.count(7), 0);
        x.ride(1, 0);
        x.pass(1);
        Check.due("none was there", x.count(7), 1);
        Check.due("the one that is called", Check.told(x, 0), "4 -1 -1 1 0 0");
    }

    @Says("and it is told where each pod is, who waits how long, which slot is free, when a pod "
            + "comes in, how many minutes the ride of a rider takes, which station calls, and "
            + "how the next minutes will be.")
    private static void whatIsTold() {
        PodGuideway x = Check.ring(4, 10);
        x.pod(0);
        Check.due("which station a call would reach", x.answers(1), 0);
        x.ride(0, 1);
        x.ride(0, 1);
        Check.due("how many minutes a ride takes", x.takes(0, 1), 55);
        Check.due("how the next minutes will be", x.foresee(7, 5), 1);
        x.pass(2);
        Check.due("where the pod is", x.told(0, 0), 5);
        Check.due("who waits how long", x.waits(0, 0), 21);
        Check.due("which slot is free", Check.row(x.slot(4), x.slot(5)), "-1 0");
        Check.due("when it comes in", x.when(0), 5);
        x.pass(5);
        Check.due("it was called at once", Check.told(x, 0), "10 -1 -1 0 0 0");
    }

    // ---- the order of the steps

    @Says("A minute goes like this:")
    private static void step1IsAheadOfStep2() {
        PodGuideway x = Edges.barredNext();
        x.pass(1);
        x.send(1, 0);
        Check.due("in its berth still", x.told(1, 1), 1);
        x.pass(1);
        Check.due("it has gone on, though a berth gets free", Check.told(x, 0), "2 -1 -1 1 1 1");
        Check.due("behind it", Check.told(x, 1), "1 -1 -1 0 0 0");
        PodGuideway y = Check.ring(4, 5);
        y.pod(0);
        y.send(0, 1);
        y.pass(1);
        Check.due("one place ahead", y.told(0, 0), 4);
        y.pass(1);
        Check.due("on and off in one minute", Check.told(y, 0), "-1 1 0 -1 0 0");
    }

    @Says("A minute goes like this:")
    private static void step1IsAheadOfStep5() {
        PodGuideway x = Check.ring(4, 9);
        x.pod(0);
        x.send(0, 1);
        x.pass(1);
        Check.due("it merges and stays at the place", x.told(0, 0), 4);
        // The slot that comes to 4 counts, not the one that goes from there.
        PodGuideway y = Check.ring(3, 4, 9);
        y.pod(0);
        y.pod(1);
        y.send(0, 2);
        y.pass(1);
        y.send(1, 2);
        y.pass(1);
        Check.due("the slot that has come is not free", y.told(1, 0), -1);
        y.pass(1);
        Check.due("the next is", y.told(1, 0), 4);
    }

    @Says("A minute goes like this:")
    private static void step2IsAheadOfStep3() {
        PodGuideway x = Check.ring(4, 5);
        x.pod(0);
        x.send(0, 1);
        x.ride(1, 0);
        x.pass(2);
        Check.due("it comes, and the rider gets in", Check.told(x, 0), "5 -1 -1 0 1 0");
        Check.due("who had waited for a minute", x.count(8), 1);
    }

    @Says("A minute goes like this:")
    private static void step3IsAheadOfStep4() {
        PodGuideway x = Check.ring(4, 9);
        x.pod(0);
        x.pod(1);
        x.ride(0, 1);
        x.pass(1);
        Check.due("who has got in does not call", x.count(7), 0);
        Check.due("the other one is idle", x.told(1, 3), -1);
        // All have got in before the first one calls.
        PodGuideway y = Check.ring(4, 9);
        y.pod(1);
        y.pod(1);
        y.ride(0, 1);
        y.ride(1, 0);
        y.pass(1);
        Check.due("the rider of station 1 is in", Check.told(y, 0), "9 -1 -1 0 1 0");
        Check.due("and nobody waits there", Check.told(y, 1), "-1 1 1 0 0 0");
    }

    @Says("A minute goes like this:")
    private static void step4IsAheadOfStep5() {
        PodGuideway x = Check.ring(4, 9);
        x.pod(0);
        x.pod(1);
        x.ride(0, 1);
        x.ride(0, 1);
        x.pass(1);
        Check.due("called and merged in one minute", Check.told(x, 1), "9 -1 -1 0 0 0");
        PodGuideway y = Check.ring(4, 9);
        y.pod(0);
        y.ride(1, 0);
        y.pass(1);
        Check.due("by the station behind it too", Check.told(y, 0), "4 -1 -1 1 0 0");
    }

    @Says("2. Stations, by numbers:")
    private static void step2AtAllStationsInOneMinute() {
        int[] places = {3, 2, 11, 10, 22, 21};
        PodGuideway x = Check.ring(places);
        for (int pair = 0; pair < 3; pair++) {
            x.pod(2 * pair + 1);
            x.ride(2 * pair + 1, 2 * pair);
        }
        x.pass(1);
        Check.due("all arrive", x.pass(1), 3);
        for (int pod = 0; pod < 3; pod++) {
            Check.due("pod " + pod, Check.told(x, pod), "-1 " + 2 * pod + " 0 -1 0 0");
        }
    }
}
