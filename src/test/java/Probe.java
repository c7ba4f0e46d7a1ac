import java.util.ArrayList;
import java.util.List;

/** Asks an object for all that can be seen of it, in some 350 calls; it is not the same afterwards. */
final class Probe {
    private final NymphRota x;
    private final List<String> answers = new ArrayList<>();

    private Probe(NymphRota x) {
        this.x = x;
    }

    static List<String> answers(NymphRota x) {
        Probe probe = new Probe(x);
        probe.basin();
        probe.strangers();
        probe.host();
        probe.rows();
        probe.inner();
        probe.kept();
        return probe.answers;
    }

    private void add(String call, int answer) {
        answers.add(call + " " + answer);
    }

    private void basin() {
        for (int what = 0; what <= 6; what++) {
            add("state " + what, x.state(what));
            add("many " + what, x.many(what));
        }
        for (int k = 0; k < 6; k++) {
            for (int what = 0; what <= 9; what++) {
                add("figureOf " + k + " " + what, x.figureOf(k, what));
            }
            add("when " + k, x.when(k));
            add("rank " + k, x.rank(k));
            add("SHADE " + k, x.nicheOf(k, 0));
            add("WET " + k, x.nicheOf(k, 1));
        }
        add("on", x.on(16));
        add("best", x.best(2));
        add("rings", x.rings(-1));
    }

    private void strangers() {
        for (int what = 0; what <= 3; what++) {
            add("nymph " + what, x.nymph(what));
        }
        add("liar", x.liar());
        add("times", x.times(3, 60));
    }

    private void host() {
        for (int i = 0; i < 4; i++) {
            for (int sort = 0; sort <= 4; sort++) {
                add("item " + i + " " + sort, x.item(i, sort, 0));
                add("taken " + i + " as row " + sort, x.taken(i, 10 + sort));
            }
            add("taken " + i, x.taken(i, 0));
            add("end of SHEET " + i, x.write(i, 2, 1));
        }
        for (int i = 1; i <= 2; i++) {
            add("byte " + i, x.item(0, 0, i));
            add("int " + i, x.item(1, 2, i));
        }
        for (int i = 0; i < 7; i++) {
            add("trace " + i, x.trace(i));
        }
    }

    private void rows() {
        add("judge", x.judge());
        for (int k = 0; k < 4; k++) {
            for (int what = 0; what <= 2; what++) {
                add("row " + k + " " + what, x.row(k, what));
            }
        }
    }

    /** What can only be seen by a change. */
    private void inner() {
        add("z", x.seed(3));
        for (int bell = 0; bell <= 15; bell++) {
            add("weather " + bell, x.weather(bell, 6));
        }
        add("bell", x.bell());
        add("rules", x.rules());
        for (int k = 0; k < 6; k++) {
            add("WILL " + k, x.figureOf(k, 9));
        }
    }

    private void kept() {
        add("again", x.again());
        for (int what = 0; what <= 6; what++) {
            add("state again " + what, x.state(what));
            add("many again " + what, x.many(what));
        }
        for (int what = 0; what <= 9; what++) {
            add("figureOf again " + what, x.figureOf(0, what));
        }
        add("nymph again", x.nymph(0));
        add("SHADE again", x.nicheOf(5, 0));
        add("z again", x.seed(3));
        add("weather again", x.weather(3, 0));
    }
}
