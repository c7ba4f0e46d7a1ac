/** Promises 14 to 22. */
final class BellPromises {
    private final Check check;

    private BellPromises(Check check) {
        this.check = check;
    }

    static void run(Check check) {
        BellPromises all = new BellPromises(check);
        all.bell();
        all.bellByRules();
        all.on();
        all.when();
        all.graceFor();
        all.nicheFor();
        all.faints();
        all.rank();
        all.rings();
        all.way();
    }

    private void due(String what, int got, int want) {
        check.due(what, got, want);
    }

    private void bell() {
        check.promise(14);
        NymphRota x = Check.five();
        due("12 of the marble; 3, 2, 5, 1 of the others", x.bell(), 23);
        int[] tired = {10, 27, 19, 44, 46};
        for (int k = 0; k < 5; k++) {
            due("TIRED of " + k, x.figureOf(k, 1), tired[k]);
        }
        due("SCORE", x.state(2), 23);
        due("RELIEVED", x.state(4), 1);
        due("13 of the girl; 2, 5, 1", x.bell(), 21);
        due("a dreamer rests in odd BELLS", x.figureOf(3, 1), 44);
        due("SCORE", x.state(2), 44);
        x.ends(2);
        due("OVER", x.bell(), -4);
        due("BELL", x.state(0), 2);
        NymphRota y = new NymphRota();
        y.figure(4, 98, 0, 0);
        due("nothing to relieve", y.bell(), 0);
        due("99 at most", y.figureOf(0, 1), 99);
        NymphRota empty = new NymphRota();
        for (int i = 0; i < 12; i++) {
            due("nobody there", empty.bell(), 0);
        }
        due("OVER", empty.bell(), -4);
    }

    private void bellByRules() {
        NymphRota x = Check.five();
        Check.rules(x, "marble keep; girl smoke; novice if bell > 0 relieve; novice keep;");
        due("none MAY: 1, 3, 2, 5, 1", x.bell(), 12);
        due("none RELIEVED", x.state(4), 0);
        due("the novice: 12 - 19 / 8, and 1, 3, 5, 1", x.bell(), 20);
        due("she is", x.state(4), 4);
        NymphRota y = Check.five();
        Check.rules(y, "girl smoke; marble keep;");
        Check.acts(y, 0, 2, 5, 1);
        due("smokes: she SHOWS not", y.goAll(0, 0, 1), 1 + 2 + 5 + 1);
        due("25 less, 0 at least; she WEARIES not", y.figureOf(1, 1), 0);
        due("others do", y.figureOf(2, 1), 19);
        due("46 tired", y.figureOf(4, 1), 46);
        due("smokes", y.goAll(0, 1, 1), 1 + 3 + 2 + 5);
        due("21", y.figureOf(4, 1), 21);
        due("keeps", y.goAll(0, 2, 1), 1 + 3 + 2 + 5 + 1);
        due("keeps: she WEARIES", y.figureOf(0, 1), 13);
        NymphRota z = new NymphRota();
        z.figure(4, 60, 0, 0);
        z.figure(3, 0, 3, 0);
        Check.rules(z, "novice smoke;");
        Check.acts(z, 0, 1);
        due("who fainted is told nothing", z.goAll(0, 0, 1), 1);
        due("60 and 14", z.figureOf(0, 1), 74);
        Check.rules(z, "figure relieve;");
        z.change(1, 4, 1);
        due("who fainted is not relieved", z.goAll(0, 0, 1), 0);
        due("still there", z.state(4), 2);
        due("RELIEVED ones WEARY not", z.figureOf(1, 1), 2);
    }

    private void on() {
        check.promise(15);
        NymphRota x = Check.five();
        due("0", x.on(0), 0);
        due("1", x.on(1), 23);
        due("2", x.on(2), 44);
        due("-1", x.on(-1), -1);
        due("17", x.on(17), -1);
        due("nothing changed", x.state(2) + x.state(0) + x.state(4), 0);
        int all = x.on(16);
        due("all BELLS yet", x.on(12), all);
        int worth = 0;
        for (int i = 0; i < 12; i++) {
            worth += x.bell();
        }
        due("as they go by", worth, all);
        due("OVER", x.on(16), 0);
    }

    private void when() {
        check.promise(16);
        NymphRota x = Check.five();
        due("the first", x.when(0), 0);
        due("the second", x.when(1), 1);
        due("FIGURE 5", x.when(5), -1);
        due("FIGURE -1", x.when(-1), -1);
        x.change(1, 4, 1);
        due("is now", x.when(1), -3);
        due("then comes the next", x.when(2), 1);
        x.change(4, 1, 60);
        due("fainted", x.when(4), -3);
        x.bell();
        due("BELLS are numbered on", x.when(2), 1);
        x.ends(1);
        due("OVER", x.when(2), -3);
    }

    private void graceFor() {
        check.promise(17);
        NymphRota x = Check.five();
        due("PAYS more", x.graceFor(0), 9);
        due("as it was", x.figureOf(0, 2), 3);
        due("FIGURE 5", x.graceFor(5), -1);
        due("FIGURE -1", x.graceFor(-1), -1);
        x.change(0, 4, 1);
        due("all the same: the least", x.graceFor(0), 0);
        NymphRota y = new NymphRota();
        y.figure(2, 0, 9, 0);
        y.ends(1);
        Check.rules(y, "figure if grace > 3 and grace < 7 relieve; figure keep;");
        due("6 pays 16 alone; 9 shows 4", y.graceFor(0), 6);
        Check.rules(y, "figure keep;");
        due("shows a third: of several the least", y.graceFor(0), 9);
        y.change(0, 1, 60);
        due("fainted: the least", y.graceFor(0), 0);
    }

    private void nicheFor() {
        check.promise(18);
        NymphRota x = new NymphRota();
        x.figure(4, 40, 0, 1);
        Check.rules(x, "figure keep;");
        x.weather(0, 15);
        x.weather(1, 15);
        due("faints anywhere: the least", x.nicheFor(0), 0);
        x.niche(4, 0, 9);
        due("12 worn is not 60 yet in SHADE", 40 + 2 * 15 - 9, 61);
        x.change(0, 1, 38);
        due("in SHADE she stands once more", x.nicheFor(0), 4);
        x.niche(3, 0, 9);
        due("of several the least", x.nicheFor(0), 3);
        due("as it was", x.figureOf(0, 3), 1);
        due("FIGURE 1", x.nicheFor(1), -1);
        due("FIGURE -1", x.nicheFor(-1), -1);
        x.ends(1);
        x.bell();
        due("OVER: the least", x.nicheFor(0), 0);
    }

    private void faints() {
        check.promise(19);
        NymphRota x = new NymphRota();
        x.figure(4, 30, 0, 0);
        Check.rules(x, "figure keep;");
        due("30, 44, 58, 72", x.faints(0), 3);
        x.bell();
        due("BELLS are numbered on", x.faints(0), 3);
        x.ends(3);
        due("as END comes, too", x.faints(0), 3);
        x.ends(2);
        due("not yet", x.faints(0), -3);
        x.ends(16);
        x.bell();
        x.bell();
        due("now", x.faints(0), 3);
        x.bell();
        due("BELL itself", x.faints(0), 4);
        x.change(0, 4, 1);
        due("RELIEVED or not", x.faints(0), 4);
        x.change(0, 1, 59);
        due("RELIEVED ones WEARY not", x.faints(0), -3);
        x.change(0, 1, 60);
        x.ends(4);
        due("OVER, too", x.faints(0), 4);
        due("FIGURE 1", x.faints(1), -1);
        due("FIGURE -1", x.faints(-1), -1);
        NymphRota y = Check.five();
        due("relieved ahead of that", y.faints(0), -3);
    }

    private void rank() {
        check.promise(20);
        NymphRota x = Check.five();
        int[] ranks = {3, 2, 4, 1, 0};
        for (int k = 0; k < 5; k++) {
            due("RANK of " + k, x.rank(k), ranks[k]);
        }
        x.change(1, 1, 44);
        due("as TIRED, of a less number", x.rank(1), 0);
        due("as TIRED, of a greater one", x.rank(4), 1);
        x.change(1, 4, 1);
        due("RELIEVED ones count not", x.rank(4), 0);
        due("RELIEVED", x.rank(1), -3);
        x.change(4, 1, 60);
        due("fainted", x.rank(4), -3);
        due("fainted ones count not", x.rank(3), 0);
        due("FIGURE 5", x.rank(5), -1);
        due("FIGURE -1", x.rank(-1), -1);
    }

    private void rings() {
        check.promise(21);
        NymphRota x = new NymphRota();
        due("none", x.rings(-1), 0);
        due("no such FIGURE", x.rings(0), -1);
        x.figure(1, 0, 0, 0);
        due("alone", x.rings(-1), 1);
        due("she herself", x.rings(0), 1);
        x.figure(1, 0, 0, 2);
        due("apart", x.rings(-1), 2);
        x.figure(1, 0, 0, 5);
        due("0 is next to 5", x.rings(0), 5);
        due("still two", x.rings(-1), 2);
        x.figure(1, 0, 0, 2);
        due("the same NICHE", x.rings(3), 10);
        x.figure(1, 0, 0, 1);
        due("hang together by her", x.rings(2), 31);
        due("one", x.rings(-1), 1);
        x.change(4, 4, 1);
        due("RELIEVED", x.rings(4), 0);
        due("two again", x.rings(-1), 2);
        x.change(4, 4, 0);
        x.change(4, 1, 60);
        due("fainted", x.rings(4), 0);
        x.figure(1, 0, 0, 4);
        due("4 by 5 by 0", x.rings(5), 37);
        due("what 6", x.rings(6), -1);
        due("what -2", x.rings(-2), -1);
        NymphRota chain = new NymphRota();
        int[] places = {0, 3, 1, 4, 2, 5};
        for (int place : places) {
            chain.figure(1, 0, 0, place);
        }
        due("all round", chain.rings(0), 63);
        chain.change(5, 4, 1);
        due("a chain of five", chain.rings(3), 31);
    }

    private void way() {
        check.promise(22);
        NymphRota x = new NymphRota();
        for (int to = 0; to < 6; to++) {
            due("steps to " + to, x.way(0, to, 0), to <= 3 ? to : 6 - to);
        }
        x.niche(1, 1, 4);
        due("too WET: the other way", x.way(0, 2, 3), 4);
        due("no more than told", x.way(0, 2, 4), 2);
        due("stepped on last", x.way(0, 1, 3), -3);
        due("the same", x.way(1, 1, 0), 0);
        due("off a WET one", x.way(1, 0, 0), 1);
        x.niche(4, 1, 9);
        due("neither way", x.way(0, 3, 3), -3);
        due("neither way", x.way(5, 2, 3), -3);
        due("9", x.way(5, 4, 9), 1);
        int[][] wrong = {{-1, 0, 0}, {6, 0, 0}, {0, -1, 0}, {0, 6, 0}, {0, 0, -1}, {0, 0, 10}, {6, 6, 5}};
        for (int[] w : wrong) {
            due("wrong", x.way(w[0], w[1], w[2]), -1);
        }
    }
}
