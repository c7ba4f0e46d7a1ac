import java.util.ArrayList;
import java.util.List;

/** What the tests of boundary cases share: each method pNN_.. of a class under it is one test, of promise NN. */
abstract class Edges {
    interface Make {
        NymphRota make();
    }

    interface Ask {
        int of(NymphRota x);
    }

    interface By {
        int of(NymphRota x, int v);
    }

    private static final int[] FAR_OFF = {Integer.MIN_VALUE, Integer.MIN_VALUE + 1, -65536, 65536, Integer.MAX_VALUE};

    private final List<String> faults = new ArrayList<>();
    private int answers;

    final void due(String what, int got, int want) {
        answers++;
        if (got != want) {
            faults.add(what + " answered " + got + ", due is " + want);
        }
    }

    /** All that can be seen of two objects is alike; they are used up by this. */
    final void alike(String what, NymphRota x, NymphRota y) {
        List<String> all = Probe.answers(x);
        List<String> others = Probe.answers(y);
        for (int i = 0; i < all.size(); i++) {
            answers++;
            if (!all.get(i).equals(others.get(i))) {
                faults.add(what + ": " + all.get(i) + ", of the other one " + others.get(i));
                return;
            }
        }
    }

    /** Of two objects made alike one is asked; afterwards they are alike yet. */
    private void sameAfter(Make scene, Ask call, String what) {
        NymphRota asked = scene.make();
        call.of(asked);
        alike(what + " changes nothing", asked, scene.make());
    }

    final void changesNothing(Make scene, Ask... calls) {
        for (int i = 0; i < calls.length; i++) {
            sameAfter(scene, calls[i], "call " + i);
        }
    }

    /** Each call, on an object of its own, is refused and changes nothing. */
    final void refused(Make scene, int want, Ask... calls) {
        for (int i = 0; i < calls.length; i++) {
            due("refused call " + i, calls[i].of(scene.make()), want);
            sameAfter(scene, calls[i], "refused call " + i);
        }
    }

    /** A number from least to most is taken; the first beyond either end, and what is far off, is refused. */
    final void ends(Make scene, int least, int atLeast, int most, int atMost, int beyond, By call) {
        due("the least, " + least, call.of(scene.make(), least), atLeast);
        due("the most, " + most, call.of(scene.make(), most), atMost);
        refused(scene, beyond, x -> call.of(x, least - 1), x -> call.of(x, most + 1));
        for (int v : FAR_OFF) {
            refused(scene, beyond, x -> call.of(x, v));
        }
    }

    final void ends(Make scene, int least, int atLeast, int most, int atMost, By call) {
        ends(scene, least, atLeast, most, atMost, NymphRota.BAD, call);
    }

    final int answers() {
        return answers;
    }

    final List<String> faults() {
        return faults;
    }
}
