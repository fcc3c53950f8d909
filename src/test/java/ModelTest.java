import java.util.Random;

/** Long runs of calls, the same on the class and on the model, with every answer compared. */
public final class ModelTest {
    private static final int RUNS = 400;
    private static final int CALLS_OF_AN_OBJECT = 512;
    private static final int[] EXTREMES = {
        Integer.MIN_VALUE, Integer.MIN_VALUE + 1, -100, -2, -1, 24, 25, 99, 100, 101, 200,
        1 << 30, Integer.MAX_VALUE - 1, Integer.MAX_VALUE};

    private static int barred = 0;
    private static int fullQueues = 0;
    private static int fullRings = 0;
    private static int never = 0;
    private static int[] thrown = new int[3];

    private ModelTest() {
    }

    public static void main(String[] args) {
        for (int run = 0; run < RUNS; run++) {
            runOnce(run);
        }
        System.out.println("barred " + barred + ", full queues " + fullQueues + ", full rings "
                + fullRings + ", never " + never + ", thrown " + thrown[0] + " " + thrown[1]
                + " " + thrown[2]);
        Check.due("runs with barred pods", barred > 20);
        Check.due("runs with full queues", fullQueues > 20);
        Check.due("runs with all stations and pods", fullRings > 20);
        Check.due("rides that never end", never > 20);
        Check.due("every exception was seen", thrown[0] > 0 && thrown[1] > 0 && thrown[2] > 0);
        Check.finish();
    }

    private static void runOnce(int run) {
        // A seed of its own for each run, so that a run can be told by its number.
        Random random = new Random(1399L * 31L + run);
        PodGuideway x = new PodGuideway();
        Model model = new Model();
        int stations = 1 + random.nextInt(6);
        int pods = random.nextInt(13);
        int haste = 1 + random.nextInt(12);
        for (int made = 0; made < CALLS_OF_AN_OBJECT; made++) {
            int which = choose(random, made, stations, pods, haste);
            int a = argument(random, which, 0);
            int b = argument(random, which, 1);
            if (which == Model.PASS && random.nextInt(20) != 0) {
                a = 1 + random.nextInt(haste);
            }
            String want = model.call(which, a, b);
            String got = answer(x, which, a, b);
            Check.due("run " + run + " call " + made + ": " + which + "(" + a + ", " + b + ")",
                    got, want);
            tally(which, want);
        }
        Check.due("run " + run + " at its end", answer(x, Model.DIGEST, 0, 0),
                model.call(Model.DIGEST, 0, 0));
        for (Model.Pod pod : model.pods) {
            barred += pod.barred > 0 ? 1 : 0;
        }
        for (Model.Station station : model.stations) {
            fullQueues += station.queue.size() == 9 ? 1 : 0;
        }
        fullRings += model.stations.size() == 6 && model.pods.size() == 12 ? 1 : 0;
    }

    private static int choose(Random random, int made, int stations, int pods, int haste) {
        if (made < stations) {
            return Model.BUILD;
        }
        if (made < stations + pods) {
            return Model.POD;
        }
        int dice = random.nextInt(100);
        if (dice < 25) {
            return Model.RIDE;
        }
        if (dice < 30 + 20 / haste) {
            return Model.PASS;
        }
        return dice < 60 ? Model.SEND : random.nextInt(Model.CALLS);
    }

    private static int argument(Random random, int which, int place) {
        if (random.nextInt(40) == 0) {
            return EXTREMES[random.nextInt(EXTREMES.length)];
        }
        switch (which) {
            case Model.BUILD:
            case Model.SLOT:
                return random.nextInt(24);
            case Model.COUNT:
                return random.nextInt(9);
            case Model.PASS:
                return 1 + random.nextInt(100);
            case Model.FORESEE:
                return place == 0 ? 1 + random.nextInt(100) : 3 + random.nextInt(5);
            case Model.TOLD:
            case Model.SEND:
            case Model.WHEN:
                return place == 0 ? random.nextInt(12) : random.nextInt(6);
            case Model.STATION:
                return random.nextInt(place == 0 ? 6 : 7);
            case Model.WAITS:
                return random.nextInt(place == 0 ? 6 : 9);
            default:
                return random.nextInt(6);
        }
    }

    private static String answer(PodGuideway x, int which, int a, int b) {
        try {
            switch (which) {
                case Model.BUILD: return Integer.toString(x.build(a));
                case Model.POD: return Integer.toString(x.pod(a));
                case Model.RIDE: return Integer.toString(x.ride(a, b));
                case Model.SEND: return Integer.toString(x.send(a, b));
                case Model.TOLD: return Integer.toString(x.told(a, b));
                case Model.STATION: return Integer.toString(x.station(a, b));
                case Model.WAITS: return Integer.toString(x.waits(a, b));
                case Model.SLOT: return Integer.toString(x.slot(a));
                case Model.COUNT: return Integer.toString(x.count(a));
                case Model.PASS: return Integer.toString(x.pass(a));
                case Model.WHEN: return Integer.toString(x.when(a));
                case Model.TAKES: return Integer.toString(x.takes(a, b));
                case Model.ANSWERS: return Integer.toString(x.answers(a));
                case Model.FORESEE: return Integer.toString(x.foresee(a, b));
                case Model.MEAN: return Double.toString(x.mean());
                default: return Long.toString(x.digest());
            }
        } catch (RuntimeException e) {
            // The very class: an ArrayIndexOutOfBoundsException is not the one that is due.
            return e.getClass().getSimpleName();
        }
    }

    private static void tally(int which, String want) {
        thrown[0] += want.equals(Model.BOUNDS) ? 1 : 0;
        thrown[1] += want.equals(Model.ARGUMENT) ? 1 : 0;
        thrown[2] += want.equals(Model.STATE) ? 1 : 0;
        never += which == Model.TAKES && want.equals("-1") ? 1 : 0;
    }
}
