/** Promises 12 to 15: when, takes, answers and foresee. */
public final class AheadTest {
    private static final Class<?> BOUNDS = IndexOutOfBoundsException.class;
    private static final Class<?> ARGUMENT = IllegalArgumentException.class;

    private AheadTest() {
    }

    public static void main(String[] args) {
        Tests.runAll(AheadTest.class);
    }

    private static int when(PodGuideway x, int pod) {
        long before = x.digest();
        int answer = x.when(pod);
        Check.due("when changes nothing", x.digest(), before);
        return answer;
    }

    private static int takes(PodGuideway x, int from, int to) {
        long before = x.digest();
        int answer = x.takes(from, to);
        Check.due("takes changes nothing", x.digest(), before);
        return answer;
    }

    private static int answers(PodGuideway x, int station) {
        long before = x.digest();
        int answer = x.answers(station);
        Check.due("answers changes nothing", x.digest(), before);
        return answer;
    }

    private static int foresee(PodGuideway x, int minutes, int what) {
        long before = x.digest();
        int answer = x.foresee(minutes, what);
        Check.due("foresee changes nothing", x.digest(), before);
        return answer;
    }

    @Says({
        "- `pod`: a pod",
        "Returns in how many minutes it goes off into a berth of its goal (1 for the next "
            + "minute), if nothing is done, at most 200; -1 if not by then, or if it has no goal "
            + "(nothing is changed)."
    })
    private static void promise12When() {
        PodGuideway x = Check.ring(22, 2);
        x.pod(0);
        x.pod(0);
        Check.due("no goal", when(x, 0), -1);
        x.ride(0, 1);
        Check.due("no goal yet, though a rider waits", when(x, 0), -1);
        x.send(1, 1);
        // Pod 0 has the smaller berth and gets the rider, so it merges first.
        Check.due("the second to merge", when(x, 1), 6);
        x.pass(1);
        Check.due("with a rider in a slot", when(x, 0), 4);
        Check.due("ready", when(x, 1), 5);
        x.pass(3);
        Check.due("the next minute", when(x, 0), 1);
        x.pass(1);
        Check.due("there", when(x, 0), -1);
    }

    @Says("if nothing is done, at most 200; -1 if not by then,")
    private static void promise12WhenBarred() {
        PodGuideway x = Check.ring(0, 1);
        x.pod(1);
        x.pod(1);
        x.pod(1);
        x.pod(0);
        x.send(3, 1);
        Check.due("never, as the berths stay full", when(x, 3), -1);
        x.pass(2);
        x.send(0, 0);
        Check.due("once more round", when(x, 3), 24);
        x.pass(23);
        Check.due("the next minute", when(x, 3), 1);
        // It comes in and gets a new rider in the same minute: it went off all the same.
        x.ride(1, 0);
        x.ride(1, 0);
        x.ride(1, 0);
        Check.due("in and off again", when(x, 3), 1);
    }

    @Says("Throws `IndexOutOfBoundsException` if there is no such pod")
    private static void promise12WhenRefuses() {
        PodGuideway x = Check.ring(0, 1);
        x.pod(0);
        for (int pod : new int[] {-1, 1, 12, Integer.MIN_VALUE, Integer.MAX_VALUE}) {
            Check.refused(x, "when of pod " + pod, BOUNDS, () -> x.when(pod));
        }
    }

    @Says({
        "- `from`: a station",
        "- `to`: a station",
        "Returns in how many minutes a rider who came now, as the last one there, would "
            + "arrive (1 for the next minute), if nothing else is done,"
    })
    private static void promise13Takes() {
        PodGuideway x = Check.ring(3, 10, 20);
        Check.due("without pods", takes(x, 0, 1), -1);
        x.pod(0);
        Check.due("in the next minute in, and 7 on", takes(x, 0, 1), 8);
        Check.due("over the end", takes(x, 2, 0), 25);
        Check.due("called, then ridden", takes(x, 1, 2), 18);
        x.ride(0, 2);
        // The pod is back behind 24 places, as it is called when it is empty again.
        Check.due("as the last one there", takes(x, 0, 1), 32);
        x.pass(1);
        Check.due("it has gone", takes(x, 0, 1), 31);
        Check.due("riders who wait are the same", x.count(3), 0);
    }

    @Says("at most 200; -1 if not by then, or if 9 wait there (nothing is changed).")
    private static void promise13TakesAtMost200() {
        // One pod goes round and round: the rider with the number k gets in at 1 + 24 * k.
        PodGuideway x = Check.ring(0, 7, 8);
        x.pod(0);
        for (int come = 0; come < 8; come++) {
            Check.due("rider " + come, takes(x, 0, 1), 8 + 24 * come);
            x.ride(0, 1);
        }
        Check.due("200 minutes", takes(x, 0, 1), 200);
        Check.due("201 minutes", takes(x, 0, 2), -1);
        x.ride(0, 1);
        Check.due("9 wait there", takes(x, 0, 1), -1);
        x.pass(1);
        Check.due("8 wait there again", takes(x, 0, 1), -1);
        x.pass(24);
        Check.due("7 wait there", takes(x, 0, 1), 199);
        PodGuideway y = Check.ring(0, 7);
        for (int come = 0; come < 8; come++) {
            y.ride(0, 1);
        }
        y.pod(0);
        y.pod(0);
        y.pod(0);
        // The third to get in for the third time: 48 minutes and 2 behind the very first.
        Check.due("8 wait there, 3 pods", takes(y, 0, 1), 58);
        y.ride(0, 1);
        Check.due("9 wait there, 3 pods", takes(y, 0, 1), -1);
    }

    @Says({
        "Throws `IndexOutOfBoundsException` if there is no such station",
        "Throws `IllegalArgumentException` if both are the same"
    })
    private static void promise13TakesRefuses() {
        PodGuideway x = Check.ring(0, 7);
        Check.refused(x, "takes from -1", BOUNDS, () -> x.takes(-1, 0));
        Check.refused(x, "takes from 2", BOUNDS, () -> x.takes(2, 0));
        Check.refused(x, "takes to -1", BOUNDS, () -> x.takes(0, -1));
        Check.refused(x, "takes to 2", BOUNDS, () -> x.takes(0, 2));
        Check.refused(x, "takes from nowhere to there", BOUNDS, () -> x.takes(2, 2));
        Check.refused(x, "takes far out", BOUNDS,
                () -> x.takes(Integer.MIN_VALUE, Integer.MAX_VALUE));
        Check.refused(x, "takes to the same", ARGUMENT, () -> x.takes(1, 1));
        for (int come = 0; come < 9; come++) {
            x.ride(0, 1);
        }
        Check.refused(x, "takes to the same where 9 wait", ARGUMENT, () -> x.takes(0, 0));
        Check.refused(x, "takes to nowhere where 9 wait", BOUNDS, () -> x.takes(0, 2));
    }

    @Says({
        "- `station`: a station",
        "Returns the station that would answer, if it called now, as all is now (whether "
            + "it would call or not); -1 if none would."
    })
    private static void promise14Answers() {
        PodGuideway x = Check.ring(0, 10, 20);
        Check.due("no pods", answers(x, 0), -1);
        x.pod(0);
        Check.due("its own pod does not count", answers(x, 0), -1);
        Check.due("the only one", answers(x, 1), 0);
        x.pod(1);
        x.pod(2);
        Check.due("20 is 4 places behind 0", answers(x, 0), 2);
        Check.due("0 is 10 places behind 10", answers(x, 1), 0);
        Check.due("10 is 10 places behind 20", answers(x, 2), 1);
        x.ride(2, 1);
        Check.due("not where a rider waits", answers(x, 0), 1);
        x.send(1, 2);
        Check.due("not from where none is idle", answers(x, 0), -1);
        Check.due("who calls may have riders or none", answers(x, 2), 0);
    }

    @Says("Throws `IndexOutOfBoundsException` if there is no such station")
    private static void promise14AnswersRefuses() {
        PodGuideway x = Check.ring(0, 10);
        for (int station : new int[] {-1, 2, 6, Integer.MIN_VALUE, Integer.MAX_VALUE}) {
            Check.refused(x, "answers " + station, BOUNDS, () -> x.answers(station));
        }
    }

    @Says({
        "- `minutes`: how many, 1 to 100",
        "- `what`: 3, 4, 5, 6 or 7 as count() has it",
        "Returns this, behind so many minutes, if nothing is done (nothing is changed)."
    })
    private static void promise15Foresee() {
        PodGuideway x = Check.ring(0, 3);
        x.pod(0);
        x.ride(0, 1);
        x.ride(0, 1);
        x.ride(1, 0);
        int[] minutes = {1, 3, 4, 25, 28, 100};
        String[] want = {"2 1 0 23 0", "2 1 0 23 0", "1 1 1 23 0", "0 1 2 23 0", "0 0 3 24 0",
            "0 0 3 24 0"};
        for (int i = 0; i < minutes.length; i++) {
            Check.due("behind " + minutes[i], Check.row(foresee(x, minutes[i], 3),
                    foresee(x, minutes[i], 4), foresee(x, minutes[i], 5),
                    foresee(x, minutes[i], 6), foresee(x, minutes[i], 7)), want[i]);
        }
        x.pass(28);
        x.ride(0, 1);
        Check.due("calls so far", x.count(7), 0);
        Check.due("one call", foresee(x, 1, 7), 1);
        Check.due("one call only", foresee(x, 100, 7), 1);
        Check.due("all that arrived", foresee(x, 100, 5), 4);
    }

    @Says({
        "Throws `IllegalArgumentException` if minutes is not 1 to 100",
        "Throws `IndexOutOfBoundsException` if what is none of these"
    })
    private static void promise15ForeseeRefuses() {
        PodGuideway x = Check.ring(0, 3);
        for (int minutes : new int[] {0, -1, 101, Integer.MIN_VALUE, Integer.MAX_VALUE}) {
            Check.refused(x, "foresee " + minutes, ARGUMENT, () -> x.foresee(minutes, 3));
            Check.refused(x, "foresee of nothing " + minutes, ARGUMENT,
                    () -> x.foresee(minutes, 9));
        }
        for (int what : new int[] {2, 8, 0, -1, Integer.MIN_VALUE, Integer.MAX_VALUE}) {
            Check.refused(x, "foresee what " + what, BOUNDS, () -> x.foresee(1, what));
        }
    }
}
