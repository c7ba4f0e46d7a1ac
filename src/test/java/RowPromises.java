/** Promises 37 to 40. */
final class RowPromises {
    private final Check check;

    private RowPromises(Check check) {
        this.check = check;
    }

    static void run(Check check) {
        RowPromises all = new RowPromises(check);
        all.prove();
        all.row();
        all.alterRow();
        all.judge();
    }

    private void due(String what, int got, int want) {
        check.due(what, got, want);
    }

    private void prove() {
        check.promise(37);
        NymphRota x = Check.five();
        due("5", x.prove(5), -1);
        due("-1", x.prove(-1), -1);
        due("4", x.prove(4), 4);
        due("ROWS", x.many(4), 4);
        due("BAD changes nothing", x.prove(5), -1);
        due("ROWS stay", x.many(4), 4);
        due("nothing changed", x.state(0) + x.state(2) + x.state(4), 0);
        for (int i = 0; i < 4; i++) {
            due("the FIRST of the BEST", x.row(i, 0), x.ith(4, i));
        }
        due("WORTH together", x.row(0, 1) + x.row(1, 1) + x.row(2, 1) + x.row(3, 1), x.best(4));
        due("none", x.prove(0), 0);
        due("no ROWS", x.many(4), 0);
        x.ends(2);
        due("fewer", x.prove(4), 2);
    }

    private void row() {
        check.promise(38);
        NymphRota x = Check.five();
        due("none yet", x.row(0, 0), -9);
        x.change(4, 4, 1);
        x.prove(1);
        due("ACT", x.row(0, 0), 1);
        due("WORTH", x.row(0, 1), 12 + 3 + 2 + 5);
        due("RELIEVED behind it", x.row(0, 2), 17);
        due("what 3", x.row(0, 3), -9);
        due("what -1", x.row(0, -1), -9);
        due("ROW 1", x.row(1, 0), -9);
        due("ROW -1", x.row(-1, 0), -9);
        due("far off", x.row(Integer.MAX_VALUE, Integer.MIN_VALUE), -9);
    }

    private void alterRow() {
        check.promise(39);
        NymphRota x = Check.five();
        due("none yet", x.alterRow(0, 0, 1), -9);
        x.prove(2);
        int was = x.row(1, 1);
        due("was", x.alterRow(1, 1, Integer.MIN_VALUE), was);
        due("became", x.row(1, 1), Integer.MIN_VALUE);
        due("was that", x.alterRow(1, 1, 3), Integer.MIN_VALUE);
        due("what 3", x.alterRow(0, 3, 1), -9);
        due("what -1", x.alterRow(0, -1, 1), -9);
        due("ROW 2", x.alterRow(2, 0, 1), -9);
        due("ROW -1", x.alterRow(-1, 0, 1), -9);
        x.prove(2);
        due("proved again", x.row(1, 1), was);
    }

    private void judge() {
        check.promise(40);
        NymphRota x = Check.five();
        due("no ROWS", x.judge(), 0);
        x.prove(4);
        due("right", x.judge(), 0);
        for (int k = 3; k >= 0; k--) {
            for (int what = 0; what < 3; what++) {
                int was = x.alterRow(k, what, 63);
                due("wrong", x.judge(), k + 1);
                x.alterRow(k, what, -1);
                due("wrong", x.judge(), k + 1);
                x.alterRow(k, what, was);
            }
        }
        due("right again", x.judge(), 0);
        due("nothing changed", x.state(0) + x.state(2) + x.state(4), 0);
        x.ends(2);
        due("OVER ahead of the third", x.judge(), 3);
        x.ends(12);
        x.bell();
        due("from how it is now", x.judge(), 1);
        NymphRota y = new NymphRota();
        y.prove(2);
        y.alterRow(1, 0, 1);
        due("no ACT", y.judge(), 2);
        y.figure(1, 60, 0, 0);
        due("an ACT by now", y.judge(), 0);
        NymphRota z = Check.five();
        Check.rules(z, "figure keep;");
        z.prove(1);
        z.alterRow(0, 0, 5);
        due("another ACT, of the same WORTH: right", z.judge(), 0);
    }
}
