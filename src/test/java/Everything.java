import java.util.ArrayList;
import java.util.List;

/** All that can be asked of a ring, and how it goes on, each with its answer. */
final class Everything {
    // Asked of one object at most, so that its 512 calls are enough.
    private static final int ASKED_OF_ONE = 150;
    private static final int[] MINUTES = {1, 2, 3, 5, 12, 24, 25, 48, 100};

    private final Edges.Scene scene;
    private final List<String> answers = new ArrayList<>();
    private PodGuideway asked;
    private int askedOfIt;

    private Everything(Edges.Scene scene) {
        this.scene = scene;
        renew();
    }

    static List<String> of(Edges.Scene scene) {
        Everything all = new Everything(scene);
        PodGuideway first = scene.make();
        all.askOfTheRing();
        all.askOfStations(first.count(1), first);
        all.askOfPods(first.count(2));
        all.askAhead();
        all.goOnWithCalls();
        all.goOnWithMinutes();
        return all.answers;
    }

    private void renew() {
        asked = scene.make();
        askedOfIt = 0;
    }

    private void ask(String question, Edges.Call call) {
        if (askedOfIt >= ASKED_OF_ONE) {
            renew();
        }
        note(question, call);
    }

    private void note(String question, Edges.Call call) {
        askedOfIt++;
        answers.add(question + " = " + Edges.answer(asked, call));
    }

    private void askOfTheRing() {
        for (int i = 0; i < 9; i++) {
            int what = i;
            ask("count(" + what + ")", x -> x.count(what));
        }
        for (int i = 0; i < 24; i++) {
            int place = i;
            ask("slot(" + place + ")", x -> x.slot(place));
        }
        ask("mean() as bits", x -> Double.doubleToLongBits(x.mean()));
        ask("digest()", x -> x.digest());
    }

    private void askOfStations(int stations, PodGuideway first) {
        for (int i = 0; i < stations; i++) {
            int station = i;
            for (int k = 0; k < 7; k++) {
                int what = k;
                ask("station(" + station + ", " + what + ")", x -> x.station(station, what));
            }
            for (int k = 0; k < first.station(station, 3); k++) {
                int rider = k;
                ask("waits(" + station + ", " + rider + ")", x -> x.waits(station, rider));
            }
            ask("answers(" + station + ")", x -> x.answers(station));
            for (int k = 0; k < stations; k++) {
                int to = k;
                ask("takes(" + station + ", " + to + ")", x -> x.takes(station, to));
            }
        }
    }

    private void askOfPods(int pods) {
        for (int i = 0; i < pods; i++) {
            int pod = i;
            for (int k = 0; k < 6; k++) {
                int what = k;
                ask("told(" + pod + ", " + what + ")", x -> x.told(pod, what));
            }
            ask("when(" + pod + ")", x -> x.when(pod));
        }
    }

    private void askAhead() {
        for (int minutes : MINUTES) {
            for (int i = 3; i <= 7; i++) {
                int what = i;
                ask("foresee(" + minutes + ", " + what + ")", x -> x.foresee(minutes, what));
            }
        }
    }

    private void goOnWithCalls() {
        renew();
        for (int i = 0; i < 24; i++) {
            int place = i;
            note("then build(" + place + ")", x -> x.build(place));
        }
        for (int i = 0; i < 6; i++) {
            int station = i;
            note("then pod(" + station + ")", x -> x.pod(station));
            for (int k = 0; k < 6; k++) {
                int to = k;
                note("then ride(" + station + ", " + to + ")", x -> x.ride(station, to));
            }
        }
        for (int i = 0; i < 12; i++) {
            int pod = i;
            note("then send(" + pod + ")", x -> x.send(pod, pod % 6));
        }
        note("then pass(30)", x -> x.pass(30));
        note("then digest()", x -> x.digest());
    }

    private void goOnWithMinutes() {
        renew();
        for (int minute = 1; minute <= 60; minute++) {
            note("after minute " + minute, x -> x.pass(1) * 1000003L + x.digest());
        }
    }
}
