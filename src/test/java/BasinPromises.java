/** Promises 1 to 11. */
final class BasinPromises {
    private final Check check;

    private BasinPromises(Check check) {
        this.check = check;
    }

    static void run(Check check) {
        BasinPromises all = new BasinPromises(check);
        all.newObject();
        all.figure();
        all.figureOf();
        all.wearies();
        all.shows();
        all.pays();
        all.change();
        all.remake();
        all.weather();
        all.niche();
        all.ends();
        all.anew();
        all.state();
    }

    private void due(String what, int got, int want) {
        check.due(what, got, want);
    }

    private void newObject() {
        check.promise(1);
        NymphRota x = new NymphRota();
        for (int what = 0; what <= 6; what++) {
            due("many(" + what + ") at first", x.many(what), 0);
        }
        due("nothing kept", x.again(), NymphRota.NONE);
        due("BELL", x.state(0), 0);
        due("END", x.state(1), 12);
        due("SCORE", x.state(2), 0);
        due("z", x.seed(0), 1);
        for (int i = 0; i < 16; i++) {
            due("WEATHER at first", x.weather(i, 0), 5);
        }
        for (int f = 0; f < 6; f++) {
            due("SHADE at first", x.nicheOf(f, 0), 0);
            due("WET at first", x.nicheOf(f, 1), 0);
        }
        for (int i = 0; i < 4; i++) {
            due("SHEET missing at first", x.item(i, 0, 0), -11);
            due("SHELF empty at first", x.taken(i, 0), -11);
        }
        NymphRota other = Check.five();
        due("objects are apart", x.many(0), 0);
        due("the other one", other.many(0), 5);
    }

    private void figure() {
        check.promise(2);
        NymphRota x = new NymphRota();
        due("KIND 0", x.figure(0, 0, 0, 0), -1);
        due("KIND 6", x.figure(6, 0, 0, 0), -1);
        due("TIRED 100", x.figure(1, 100, 0, 0), -1);
        due("TIRED -1", x.figure(1, -1, 0, 0), -1);
        due("GRACE 10", x.figure(1, 0, 10, 0), -1);
        due("GRACE -1", x.figure(1, 0, -1, 0), -1);
        due("NICHE 6", x.figure(1, 0, 0, 6), -1);
        due("NICHE -1", x.figure(1, 0, 0, -1), -1);
        due("all too much", x.figure(Integer.MAX_VALUE, Integer.MIN_VALUE, 77, -77), -1);
        due("none made", x.many(0), 0);
        due("the first", x.figure(1, 0, 0, 0), 0);
        due("the second", x.figure(5, 99, 9, 5), 1);
        due("TIRED of it", x.figureOf(1, 1), 99);
        for (int k = 2; k < 6; k++) {
            due("as they come", x.figure(3, 1, 2, 3), k);
        }
        due("BAD is named before FULL", x.figure(0, 0, 0, 0), -1);
        due("the seventh", x.figure(1, 0, 0, 0), -2);
        due("six", x.many(0), 6);
    }

    private void figureOf() {
        check.promise(3);
        NymphRota x = Check.five();
        int[] marble = {1, 10, 3, 0, 0, 1, 1, 12, 1, 0};
        int[] dreamer = {5, 30, 9, 0, 0, 14, 5, 16, 1, 0};
        for (int what = 0; what <= 9; what++) {
            due("marble " + what, x.figureOf(0, what), marble[what]);
            due("dreamer " + what, x.figureOf(3, what), dreamer[what]);
        }
        due("what 10", x.figureOf(0, 10), -1);
        due("what -1", x.figureOf(0, -1), -1);
        due("no such FIGURE", x.figureOf(5, 0), -1);
        due("FIGURE -1", x.figureOf(-1, 0), -1);
        due("far off", x.figureOf(Integer.MAX_VALUE, Integer.MIN_VALUE), -1);
        x.change(3, 4, 1);
        due("RELIEVED", x.figureOf(3, 4), 1);
        due("WEARIES if RELIEVED, too", x.figureOf(3, 5), 14);
        due("SHOWS nothing", x.figureOf(3, 6), 0);
        due("PAYS nothing", x.figureOf(3, 7), 0);
        due("MAY not", x.figureOf(3, 8), 0);
        due("WILL is asked all the same", x.figureOf(3, 9), 0);
        Check.rules(x, "marble keep; girl smoke;");
        due("keep", x.figureOf(0, 9), 1);
        due("keeps: MAY not", x.figureOf(0, 8), 0);
        due("smoke", x.figureOf(1, 9), 2);
        due("a matron is a girl", x.figureOf(4, 9), 2);
        due("no RULE tells", x.figureOf(2, 9), 0);
    }

    /** WEARIES of all KINDS, SUN and BELLS, counted by the words of the document. */
    private void wearies() {
        for (int bell = 0; bell <= 16; bell++) {
            NymphRota x = Scenes.kinds(0, 0);
            x.ends(16);
            Scenes.after(x, bell);
            for (int sun = 0; sun <= (bell < 16 ? 3 : 0); sun++) {
                x.weather(bell, 4 * sun + bell % 4);
                int figure = 3 + 4 * sun;
                int girl = figure + bell / 4;
                int matron = girl < 5 ? 0 : girl - 5;
                int dreamer = bell % 2 == 1 ? 0 : 2 * figure;
                int[] want = {1, girl, matron, 2 * figure, dreamer};
                for (int shade = 0; shade <= 9; shade += 3) {
                    x.niche(0, 0, shade);
                    for (int k = 0; k < 5; k++) {
                        due("WEARIES", x.figureOf(k, 5), Math.max(0, want[k] - shade));
                    }
                }
            }
        }
    }

    private void shows() {
        NymphRota x = new NymphRota();
        for (int kind = 1; kind <= 5; kind++) {
            x.figure(kind, 59, 0, 0);
        }
        for (int guests = 0; guests <= 3; guests++) {
            x.weather(0, 8 + guests);
            for (int grace = 0; grace <= 9; grace++) {
                int girl = guests + grace / 3;
                int[] want = {guests == 0 ? 0 : 1, girl, girl == 0 ? 0 : girl - 1, 2 * guests, 2 * guests + 4};
                for (int k = 0; k < 5; k++) {
                    x.change(k, 2, grace);
                    due("SHOWS", x.figureOf(k, 6), want[k]);
                }
            }
        }
        x.change(1, 1, 60);
        due("fainted", x.figureOf(1, 6), 0);
        due("fainted, PAYS", x.figureOf(1, 7), 0);
        due("fainted, MAY", x.figureOf(1, 8), 0);
    }

    private void pays() {
        NymphRota x = new NymphRota();
        x.figure(1, 0, 0, 0);
        due("rested", x.figureOf(0, 7), 10);
        x.change(0, 1, 7);
        due("not yet an eighth", x.figureOf(0, 7), 10);
        x.change(0, 1, 8);
        due("an eighth", x.figureOf(0, 7), 9);
        x.change(0, 1, 59);
        due("the most", x.figureOf(0, 7), 3);
        x.change(0, 2, 9);
        due("with GRACE", x.figureOf(0, 7), 12);
    }

    private void change() {
        check.promise(4);
        NymphRota x = Check.five();
        due("TIRED", x.change(0, 1, 99), 10);
        due("TIRED became", x.figureOf(0, 1), 99);
        due("GRACE", x.change(0, 2, 9), 3);
        due("GRACE became", x.figureOf(0, 2), 9);
        due("NICHE", x.change(0, 3, 5), 0);
        due("NICHE became", x.figureOf(0, 3), 5);
        due("RELIEVED", x.change(0, 4, 1), 0);
        due("RELIEVED became", x.state(4), 1);
        due("RELIEVED again", x.change(0, 4, 0), 1);
        due("not RELIEVED", x.state(4), 0);
        int[][] wrong = {{0, 0, 1}, {0, 5, 0}, {0, 1, 100}, {0, 1, -1}, {0, 2, 10}, {0, 2, -1}, {0, 3, 6}, {0, 3, -1},
            {0, 4, 2}, {0, 4, -1}, {5, 1, 1}, {-1, 1, 1}, {Integer.MIN_VALUE, 1, 1}};
        for (int[] w : wrong) {
            due("wrong", x.change(w[0], w[1], w[2]), -1);
        }
        due("as it was", x.figureOf(0, 1), 99);
    }

    private void remake() {
        check.promise(5);
        NymphRota x = Check.five();
        x.change(2, 4, 1);
        due("novice", x.remake(2, 3), 4);
        due("matron now", x.figureOf(2, 0), 3);
        due("as tired", x.figureOf(2, 1), 5);
        due("as much GRACE", x.figureOf(2, 2), 2);
        due("in its NICHE", x.figureOf(2, 3), 2);
        due("RELIEVED yet", x.figureOf(2, 4), 1);
        due("KIND 0", x.remake(2, 0), -1);
        due("KIND 6", x.remake(2, 6), -1);
        due("no such FIGURE", x.remake(5, 1), -1);
        due("FIGURE -1", x.remake(-1, 1), -1);
        due("still a matron", x.remake(2, 3), 3);
    }

    private void weather() {
        check.promise(6);
        NymphRota x = new NymphRota();
        due("of 0", x.weather(0, 15), 5);
        due("became", x.weather(0, 0), 15);
        due("now", x.state(5), 0);
        due("of 15", x.weather(15, 1), 5);
        due("of 16", x.weather(16, 1), -1);
        due("of -1", x.weather(-1, 1), -1);
        due("16", x.weather(1, 16), -1);
        due("-1", x.weather(1, -1), -1);
        due("as it was", x.weather(1, 2), 5);
    }

    private void niche() {
        check.promise(7);
        NymphRota x = new NymphRota();
        due("SHADE", x.niche(5, 0, 9), 0);
        due("WET", x.niche(5, 1, 4), 0);
        due("SHADE was", x.niche(5, 0, 2), 9);
        due("WET was", x.niche(5, 1, 3), 4);
        int[][] wrong = {{6, 0, 0}, {-1, 0, 0}, {0, 2, 0}, {0, -1, 0}, {0, 0, 10}, {0, 0, -1}, {0, 1, 10}, {0, 1, -1}};
        for (int[] w : wrong) {
            due("wrong", x.niche(w[0], w[1], w[2]), -1);
        }
        check.promise(8);
        due("SHADE of it", x.nicheOf(5, 0), 2);
        due("WET of it", x.nicheOf(5, 1), 3);
        due("of another", x.nicheOf(0, 0), 0);
        due("what 2", x.nicheOf(0, 2), -1);
        due("what -1", x.nicheOf(0, -1), -1);
        due("NICHE 6", x.nicheOf(6, 0), -1);
        due("NICHE -1", x.nicheOf(-1, 0), -1);
    }

    private void ends() {
        check.promise(9);
        NymphRota x = new NymphRota();
        due("END", x.ends(16), 12);
        due("0", x.ends(0), -1);
        due("17", x.ends(17), -1);
        x.bell();
        x.bell();
        due("below BELL", x.ends(1), -4);
        due("BAD is named first", x.ends(0), -1);
        due("as BELL", x.ends(2), 16);
        due("OVER", x.state(3), 1);
        due("not so any more", x.ends(3), 2);
        due("goes on", x.state(3), 0);
    }

    private void anew() {
        check.promise(10);
        NymphRota x = Check.five();
        x.ends(8);
        x.bell();
        x.bell();
        x.seed(7);
        due("BELL was", x.anew(), 2);
        due("BELL", x.state(0), 0);
        due("END stays", x.state(1), 8);
        due("SCORE", x.state(2), 0);
        due("nobody is RELIEVED", x.state(4), 0);
        for (int k = 0; k < 5; k++) {
            due("TIRED", x.figureOf(k, 1), 0);
        }
        due("GRACE stays", x.figureOf(3, 2), 9);
        due("z stays", x.seed(7), 7);
        due("once more", x.anew(), 0);
    }

    private void state() {
        check.promise(11);
        NymphRota x = Check.five();
        x.weather(1, 9);
        x.change(4, 1, 60);
        due("UP", x.state(6), 15);
        x.bell();
        due("BELL", x.state(0), 1);
        due("END", x.state(1), 12);
        due("SCORE", x.state(2), 12 + 3 + 2 + 5);
        due("OVER", x.state(3), 0);
        due("RELIEVED", x.state(4), 1);
        due("WEATHER", x.state(5), 9);
        due("UP then", x.state(6), 14);
        due("what 7", x.state(7), -1);
        due("what -1", x.state(-1), -1);
        x.ends(1);
        due("OVER then", x.state(3), 1);
    }
}
