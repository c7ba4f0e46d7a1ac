/** Promises 37 to 40. */
final class RowEdges extends Edges {
    /** Its FIRST of the BEST PLANS of four is 0, 0, 0, 1, WORTH 1, 1, 1, 10. */
    private static NymphRota marble() {
        return Scenes.one(1, 0, 0);
    }

    private static NymphRota proved() {
        NymphRota x = marble();
        x.prove(4);
        return x;
    }

    // ---- promise 37

    void p37_nIs0To4() {
        ends(Scenes::rich, 0, 0, 4, 4, NymphRota::prove);
    }

    void p37_rowsOfTheFirstOfTheBestPlans() {
        int[][] want = {{0, 1, 0}, {0, 1, 0}, {0, 1, 0}, {1, 10, 1}};
        NymphRota x = proved();
        for (int k = 0; k < 4; k++) {
            for (int what = 0; what <= 2; what++) {
                due("ROW " + k + ", " + what, x.row(k, what), want[k][what]);
            }
        }
    }

    void p37_fewerIfItIsOver() {
        NymphRota x = marble();
        x.ends(3);
        due("three of four", x.prove(4), 3);
        due("ROWS", x.many(4), 3);
        due("the last", x.row(2, 0), 1);
        due("no more", x.row(3, 0), -9);
        NymphRota over = Scenes.over();
        due("ROWS ahead of that", over.many(4), 3);
        due("OVER", over.prove(4), 0);
        due("no ROWS", over.many(4), 0);
    }

    void p37_noneInPlaceOfThoseThereWere() {
        NymphRota x = proved();
        due("n 0", x.prove(0), 0);
        due("no ROWS", x.many(4), 0);
        due("no ROW 0", x.row(0, 0), -9);
        due("right", x.judge(), 0);
    }

    void p37_fewerInPlaceOfMore() {
        NymphRota x = proved();
        due("n 1", x.prove(1), 1);
        due("ROW 0", x.row(0, 1), 10);
        due("no ROW 1", x.row(1, 1), -9);
    }

    void p37_nothingElseChanges() {
        NymphRota x = Scenes.six();
        x.prove(4);
        x.prove(0);
        NymphRota y = Scenes.six();
        y.prove(0);
        alike("alike", x, y);
    }

    // ---- promise 38

    void p38_rowsAreThoseThereAre() {
        ends(RowEdges::proved, 0, 1, 3, 10, -9, (x, v) -> x.row(v, 1));
        refused(Scenes::rich, -9, x -> x.row(3, 0), x -> x.row(-1, 0));
        refused(Scenes::bare, -9, x -> x.row(0, 0));
    }

    void p38_whatIs0To2() {
        ends(RowEdges::proved, 0, 1, 2, 1, -9, (x, v) -> x.row(3, v));
    }

    void p38_askingChangesNothing() {
        changesNothing(Scenes::rich, x -> x.row(0, 0), x -> x.row(2, 2));
    }

    // ---- promise 39

    void p39_rowsAreThoseThereAre() {
        ends(RowEdges::proved, 0, 1, 3, 10, -9, (x, v) -> x.alterRow(v, 1, 7));
        refused(Scenes::rich, -9, x -> x.alterRow(3, 0, 7), x -> x.alterRow(-1, 0, 7));
        refused(Scenes::bare, -9, x -> x.alterRow(0, 0, 7));
    }

    void p39_whatIs0To2() {
        ends(RowEdges::proved, 0, 1, 2, 1, -9, (x, v) -> x.alterRow(3, v, 7));
    }

    void p39_anyIntIsTaken() {
        int[] all = {Integer.MIN_VALUE, -9, -1, 0, Integer.MAX_VALUE};
        for (int what = 0; what <= 2; what++) {
            NymphRota x = proved();
            int was = x.row(2, what);
            for (int v : all) {
                due("was", x.alterRow(2, what, v), was);
                due("became", x.row(2, what), v);
                was = v;
            }
        }
    }

    void p39_theOthersStay() {
        NymphRota x = proved();
        x.alterRow(3, 2, 5);
        x.alterRow(0, 0, 6);
        int[][] want = {{6, 1, 0}, {0, 1, 0}, {0, 1, 0}, {1, 10, 5}};
        for (int k = 0; k < 4; k++) {
            for (int what = 0; what <= 2; what++) {
                due("ROW " + k + ", " + what, x.row(k, what), want[k][what]);
            }
        }
    }

    // ---- promise 40

    void p40_noRowsAreRight() {
        due("none yet", Scenes.bare().judge(), 0);
        NymphRota x = Scenes.over();
        x.prove(0);
        due("OVER", x.judge(), 0);
    }

    void p40_rightTillTheLast() {
        due("all", proved().judge(), 0);
        for (int n = 0; n <= 4; n++) {
            NymphRota x = Scenes.six();
            x.prove(n);
            due("of " + n, x.judge(), 0);
        }
    }

    void p40_theFirstThatIsNotAnd1More() {
        for (int k = 0; k < 4; k++) {
            for (int what = 0; what <= 2; what++) {
                NymphRota x = proved();
                x.alterRow(k, what, x.row(k, what) + 2);
                due("ROW " + k + ", " + what, x.judge(), k + 1);
                if (k < 3) {
                    x.alterRow(3, 1, 99);
                    due("the first of two", x.judge(), k + 1);
                }
            }
        }
    }

    void p40_actsAre0ToHowManyFiguresThereAre() {
        NymphRota x = Scenes.bare();
        for (int k = 0; k < 3; k++) {
            x.figure(1, 60, 0, 0);
        }
        x.prove(1);
        int[] acts = {-1, 0, 1, 3, 4, Integer.MIN_VALUE, Integer.MAX_VALUE};
        int[] want = {1, 0, 0, 0, 1, 1, 1};
        for (int i = 0; i < acts.length; i++) {
            x.alterRow(0, 0, acts[i]);
            due("ACT " + acts[i], x.judge(), want[i]);
        }
    }

    void p40_overAheadOfARow() {
        for (int end = 1; end <= 3; end++) {
            NymphRota x = proved();
            x.ends(end);
            due("END " + end, x.judge(), end + 1);
        }
        due("OVER", Scenes.over().judge(), 1);
        NymphRota x = proved();
        x.ends(4);
        due("END 4", x.judge(), 0);
    }

    void p40_fromHowItIsNow() {
        NymphRota x = proved();
        x.change(0, 1, 5);
        due("5 and 3: PAYS 9", x.judge(), 4);
        x.change(0, 1, 4);
        due("4 and 3: PAYS 10", x.judge(), 0);
        x.change(0, 4, 1);
        due("RELIEVED now", x.judge(), 1);
        x.change(0, 4, 0);
        x.figure(1, 60, 0, 0);
        due("another one, who is not UP", x.judge(), 0);
        x.change(1, 4, 1);
        due("RELIEVED by now, as a set", x.judge(), 1);
        x.change(1, 4, 0);
        x.change(1, 1, 59);
        due("another one, who SHOWS", x.judge(), 1);
    }

    void p40_anotherPlanMayBeRightToo() {
        NymphRota x = marble();
        x.prove(1);
        x.alterRow(0, 0, 0);
        due("PAYS not", x.judge(), 1);
        x.alterRow(0, 1, 1);
        due("is not RELIEVED", x.judge(), 1);
        x.alterRow(0, 2, 0);
        due("right", x.judge(), 0);
    }

    void p40_askingChangesNothing() {
        changesNothing(Scenes::rich, NymphRota::judge);
        changesNothing(RowEdges::proved, NymphRota::judge);
    }
}
