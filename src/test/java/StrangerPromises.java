/** Promises 30 to 36. */
final class StrangerPromises {
    private final Check check;

    private StrangerPromises(Check check) {
        this.check = check;
    }

    static void run(Check check) {
        StrangerPromises all = new StrangerPromises(check);
        all.report();
        all.forget();
        all.nymph();
        all.liar();
        all.seed();
        all.lot();
        all.times();
    }

    private void due(String what, int got, int want) {
        check.due(what, got, want);
    }

    private void report() {
        check.promise(30);
        NymphRota x = new NymphRota();
        int[][] wrong = {{16, 0, 0, 1}, {-1, 0, 0, 1}, {0, 2, 0, 1}, {0, -1, 0, 1}, {0, 0, -1, 1}, {0, 0, 0, 100},
            {0, 0, 5, 4}, {0, 1, 0, 1000}, {0, 1, -1, 0}, {0, 1, 9, 8}, {0, 0, 100, 100}, {0, 1, 1000, 1000}};
        for (int[] w : wrong) {
            due("wrong", x.report(w[0], w[1], w[2], w[3]), -1);
        }
        due("none", x.many(3), 0);
        due("the first", x.report(15, 0, 99, 99), 0);
        due("SHOWN", x.report(0, 1, 0, 999), 1);
        due("the same LEAST, MOST", x.report(0, 1, 5, 5), 2);
        for (int r = 3; r < 6; r++) {
            due("its number", x.report(0, 0, 0, 99), r);
        }
        due("BAD is named first", x.report(16, 0, 0, 1), -1);
        due("the seventh", x.report(0, 0, 0, 99), -2);
        due("six", x.many(3), 6);
    }

    private void forget() {
        check.promise(31);
        NymphRota x = new NymphRota();
        due("none", x.forget(), 0);
        x.report(0, 0, 0, 0);
        x.report(0, 0, 0, 0);
        due("two", x.forget(), 2);
        due("none now", x.many(3), 0);
        due("all FIT", x.nymph(0), 500);
        due("from the first again", x.report(0, 0, 0, 0), 0);
    }

    private void nymph() {
        check.promise(32);
        NymphRota x = new NymphRota();
        due("all", x.nymph(0), 500);
        due("the least KIND", x.nymph(1), 1);
        due("the least GRACE", x.nymph(2), 0);
        due("the least TIRED", x.nymph(3), 0);
        due("what 4", x.nymph(4), -1);
        due("what -1", x.nymph(-1), -1);
        x.report(0, 0, 15, 39);
        due("20 or 30 at first", x.nymph(0), 100);
        due("20", x.nymph(3), 20);
        x.report(2, 0, 40, 49);
        due("girls and dreamers of 30 by 14, novices of 20 by 28", x.nymph(0), 30);
        due("girl", x.nymph(1), 2);
        due("30", x.nymph(3), 30);
        x.report(2, 1, 5, 6);
        due("two times 1 and a third of 6 to 8", x.nymph(0), 3);
        due("GRACE", x.nymph(2), 6);
        x.report(2, 1, 0, 0);
        due("none FITS", x.nymph(0), 0);
        due("KIND of none", x.nymph(1), -3);
        due("GRACE of none", x.nymph(2), -3);
        due("TIRED of none", x.nymph(3), -3);
        due("BAD is named first", x.nymph(9), -1);
        x.forget();
        x.report(1, 1, 2, 2);
        due("UP ones that SHOW 2: girls, matrons, novices, dreamers, whose number is 0", x.nymph(0), 18 + 18 + 60 + 60);
        NymphRota y = new NymphRota();
        y.ends(1);
        y.niche(0, 0, 9);
        y.report(15, 0, 15, 15);
        due("a marble of 0, in no SHADE, whatever END", y.nymph(0), 10);
        due("marble", y.nymph(1), 1);
        due("0", y.nymph(3), 0);
        y.forget();
        y.report(15, 1, 30, 999);
        y.weather(0, 0);
        due("by WEATHER as it is", y.nymph(1), 2);
        y.forget();
        y.report(0, 1, 1, 999);
        due("behind no BELL nothing is SHOWN", y.nymph(0), 0);
    }

    private void liar() {
        check.promise(33);
        NymphRota x = new NymphRota();
        due("none there", x.liar(), -3);
        x.report(0, 0, 20, 29);
        due("some FIT", x.liar(), -3);
        x.report(0, 0, 30, 39);
        due("but for either: the least", x.liar(), 0);
        x.report(0, 0, 30, 39);
        due("but for the first", x.liar(), 0);
        x.report(0, 0, 20, 29);
        due("two by two", x.liar(), -3);
        x.forget();
        x.report(0, 0, 30, 39);
        x.report(0, 0, 20, 29);
        x.report(1, 0, 31, 33);
        due("but for the second", x.liar(), 1);
        x.forget();
        x.report(0, 1, 1, 1);
        due("one alone", x.liar(), 0);
        x.report(0, 1, 1, 1);
        due("no one alone", x.liar(), -3);
    }

    private void seed() {
        check.promise(34);
        NymphRota x = new NymphRota();
        due("1 at first", x.seed(Integer.MIN_VALUE), 1);
        due("any int", x.seed(-7), Integer.MIN_VALUE);
        due("was", x.seed(0), -7);
    }

    private void lot() {
        check.promise(35);
        NymphRota x = Check.five();
        int z = 1;
        int score = 0;
        for (int i = 0; i < 12; i++) {
            z = z * 1103515245 + 12345;
            Check.acts(x, 0, (z >>> 16) % 6);
            int want = x.wouldBe(0, 0, 1);
            due("by LOT", x.lot(), want);
            due("z", x.seed(z), z);
            score += want;
            due("SCORE", x.state(2), score);
        }
        due("OVER", x.lot(), -4);
        due("z stays", x.seed(0), z);
        NymphRota y = new NymphRota();
        due("nobody there", y.lot(), 0);
        due("z goes on", y.seed(0), 1103527590);
    }

    private void times() {
        check.promise(36);
        NymphRota x = Check.five();
        x.seed(77);
        due("0", x.times(0, 0), -1);
        due("41", x.times(41, 0), -1);
        due("v -1", x.times(1, -1), -1);
        due("v 1000", x.times(1, 1000), -1);
        due("all", x.times(40, 0), 40);
        due("none", x.times(40, 999), 0);
        due("z is as it was", x.seed(77), 77);
        int[] worths = new int[9];
        x.keep();
        for (int i = 0; i < 9; i++) {
            while (x.state(3) == 0) {
                worths[i] += x.lot();
            }
            int z = x.seed(0);
            x.again();
            x.seed(z);
        }
        x.seed(77);
        for (int v = 0; v < 200; v++) {
            int want = 0;
            for (int worth : worths) {
                want += worth >= v ? 1 : 0;
            }
            due("v or more: " + v, x.times(9, v), want);
        }
        due("all is as it was", x.state(0) + x.state(2) + x.state(4), 0);
        x.ends(1);
        x.bell();
        due("OVER: 0 or more", x.times(5, 0), 5);
        due("OVER: 1 or more", x.times(5, 1), 0);
    }
}
