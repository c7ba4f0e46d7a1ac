/** Promises 23 to 29. */
final class PlanPromises {
    private final Check check;

    private PlanPromises(Check check) {
        this.check = check;
    }

    static void run(Check check) {
        PlanPromises all = new PlanPromises(check);
        all.best();
        all.ith();
        all.ways();
        all.roster();
        all.bars();
        all.game();
        all.play();
    }

    private void due(String what, int got, int want) {
        check.due(what, got, want);
    }

    /** One marble that PAYS 10 and SHOWS 1, for two BELLS. */
    private static NymphRota one() {
        NymphRota x = new NymphRota();
        x.figure(1, 0, 0, 0);
        x.ends(2);
        return x;
    }

    private void best() {
        check.promise(23);
        NymphRota x = Check.five();
        due("0", x.best(0), 0);
        due("1: 12 and 11, or 14 and 9", x.best(1), 23);
        due("5", x.best(5), -1);
        due("-1", x.best(-1), -1);
        due("nothing changed", x.state(0) + x.state(2) + x.state(4), 0);
        NymphRota y = one();
        due("10", y.best(1), 10);
        due("1 and 10", y.best(2), 11);
        due("fewer, if OVER", y.best(4), 11);
        y.ends(1);
        y.bell();
        due("OVER", y.best(4), 0);
    }

    private void ith() {
        check.promise(24);
        NymphRota x = Check.five();
        due("the lesser ACT", x.ith(1, 0), 1);
        due("has not so many", x.ith(1, 1), -3);
        due("none", x.ith(0, 0), -3);
        due("i 4", x.ith(4, 4), -1);
        due("i -1", x.ith(4, -1), -1);
        due("n 5", x.ith(5, 0), -1);
        due("n -1", x.ith(-1, 0), -1);
        NymphRota y = one();
        due("waits", y.ith(2, 0), 0);
        due("then goes", y.ith(2, 1), 1);
        due("fewer, if OVER", y.ith(4, 2), -3);
        NymphRota none = new NymphRota();
        due("0 is an ACT", none.ith(4, 3), 0);
    }

    private void ways() {
        check.promise(25);
        NymphRota x = Check.five();
        due("none is one way", x.ways(0), 1);
        due("1", x.ways(1), 3);
        due("5", x.ways(5), -1);
        due("-1", x.ways(-1), -1);
        NymphRota y = one();
        due("1, and 0 ahead", y.ways(2), 1);
        y.change(0, 1, 60);
        due("ACTS that do nothing count, too", y.ways(2), 4);
        y.ends(16);
        due("2 by 2 by 2 by 2", y.ways(4), 16);
        for (int k = 1; k < 6; k++) {
            y.figure(1, 60, 0, 0);
        }
        due("7 by 7 by 7 by 7", y.ways(4), 2401);
    }

    private void roster() {
        check.promise(26);
        NymphRota x = Check.five();
        due("nobody", x.roster(0, 0), 0);
        due("none in 0", x.roster(0, 1), -3);
        due("one", x.roster(4, 2), 1);
        due("three", x.roster(3, 22), 3);
        due("four", x.roster(4, 15), 4);
        due("five in four", x.roster(4, 31), -3);
        due("no such FIGURE", x.roster(4, 32), -1);
        due("negative", x.roster(4, -1), -1);
        due("least", x.roster(4, Integer.MIN_VALUE), -1);
        due("5", x.roster(5, 0), -1);
        due("-1", x.roster(-1, 0), -1);
        x.change(1, 4, 1);
        due("is already", x.roster(0, 2), 0);
        due("one more", x.roster(2, 6), 1);
        x.change(2, 1, 60);
        due("fainted", x.roster(4, 4), -3);
        Check.rules(x, "marble if tired > 3 smoke;");
        due("smokes first", x.roster(4, 1), 2);
    }

    private void bars() {
        check.promise(27);
        NymphRota x = Check.five();
        due("nobody", x.bars(0, 0), -3);
        due("each behind some", x.bars(1, 31), -3);
        due("none in 0", x.bars(0, 30), 1);
        x.change(1, 4, 1);
        due("is already", x.bars(0, 2), -3);
        due("the least of them", x.bars(0, 26), 3);
        x.change(3, 1, 60);
        due("fainted", x.bars(4, 31), 3);
        due("not asked", x.bars(4, 23), -3);
        due("no such FIGURE", x.bars(4, 32), -1);
        due("negative", x.bars(4, -1), -1);
        due("5", x.bars(5, 0), -1);
        due("-1", x.bars(-1, 0), -1);
    }

    private void game() {
        check.promise(28);
        NymphRota x = Check.five();
        due("1: as the best", x.game(1), 23);
        due("0", x.game(0), -1);
        due("5", x.game(5), -1);
        NymphRota y = one();
        due("10", y.game(1), 10);
        due("1 and 1, or 10: the other one lets be", y.game(2), 10);
        due("till it is OVER", y.game(4), 10);
        y.ends(1);
        y.bell();
        due("OVER", y.game(4), 0);
        NymphRota z = one();
        Check.rules(z, "figure if bell = 0 keep;");
        due("nothing to do but 1, then 1", z.game(2), 2);
    }

    private void play() {
        check.promise(29);
        NymphRota x = Check.five();
        due("the least of three", x.play(1), 1);
        due("0", x.play(0), -1);
        due("5", x.play(5), -1);
        NymphRota y = one();
        due("at once", y.play(2), 1);
        Check.rules(y, "figure keep;");
        due("all the same", y.play(2), 0);
        y.ends(1);
        y.bell();
        due("OVER", y.play(2), -3);
        due("BAD is named first", y.play(5), -1);
    }
}
