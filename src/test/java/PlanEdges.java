/** Promises 23 to 29. */
final class PlanEdges extends Edges {
    /** A marble that SHOWS 1 and PAYS 10: in n BELLS it waits, and is relieved in the last one. */
    private static NymphRota marble() {
        return Scenes.one(1, 0, 0);
    }

    private static NymphRota marble(int end) {
        NymphRota x = marble();
        x.ends(end);
        return x;
    }

    private static NymphRota marbles(int many, int tired) {
        NymphRota x = Scenes.bare();
        for (int k = 0; k < many; k++) {
            x.figure(1, tired, 0, 0);
        }
        return x;
    }

    private static NymphRota fiveMarbles() {
        return marbles(5, 0);
    }

    private static NymphRota sixMarbles() {
        return marbles(6, 0);
    }

    private static NymphRota twoMarbles() {
        return marbles(2, 0);
    }

    // ---- promise 23

    void p23_nIs0To4() {
        ends(PlanEdges::marble, 0, 0, 4, 13, NymphRota::best);
        refused(Scenes::rich, -1, x -> x.best(-1), x -> x.best(5));
        refused(Scenes::over, -1, x -> x.best(-1), x -> x.best(5));
    }

    void p23_asManyBellsAsTold() {
        int[] want = {0, 10, 11, 12, 13};
        for (int n = 0; n <= 4; n++) {
            due("of " + n, marble().best(n), want[n]);
        }
    }

    void p23_fewerIfItIsOver() {
        due("1 of 4", marble(1).best(4), 10);
        due("3 of 4", marble(3).best(4), 12);
        due("4 of 4", marble(4).best(4), 13);
        NymphRota x = marble(12);
        Check.rules(x, "marble keep;");
        Scenes.after(x, 11);
        due("the last one", x.best(4), 1);
        x.bell();
        due("OVER", x.best(4), 0);
        due("OVER", Scenes.over().best(1), 0);
    }

    void p23_noFigures() {
        due("nothing", Scenes.bare().best(4), 0);
    }

    void p23_worthMayBe0() {
        due("all fainted", marbles(2, 60).best(4), 0);
    }

    void p23_worthIsOfTheseBellsAlone() {
        NymphRota x = twoMarbles();
        x.bell();
        due("SCORE counts not", x.best(1), 10);
    }

    void p23_askingChangesNothing() {
        changesNothing(Scenes::rich, x -> x.best(0), x -> x.best(4));
    }

    // ---- promise 24

    void p24_nIs0To4() {
        ends(PlanEdges::marble, 0, -3, 4, 0, (x, v) -> x.ith(v, 0));
        refused(Scenes::over, -1, x -> x.ith(-1, 0), x -> x.ith(5, 0));
    }

    void p24_iIs0To3() {
        ends(PlanEdges::marble, 0, 0, 3, 1, (x, v) -> x.ith(4, v));
        refused(Scenes::over, -1, x -> x.ith(0, -1), x -> x.ith(0, 4));
    }

    void p24_noneIfItHasNotSoMany() {
        refused(Scenes::rich, -3, x -> x.ith(0, 0), x -> x.ith(1, 1), x -> x.ith(2, 2), x -> x.ith(3, 3), x -> x.ith(0, 3));
        refused(Scenes::over, -3, x -> x.ith(4, 0), x -> x.ith(1, 0), x -> x.ith(4, 3));
        refused(() -> marble(2), -3, x -> x.ith(4, 2), x -> x.ith(4, 3));
    }

    void p24_theLastOneItHas() {
        for (int n = 1; n <= 4; n++) {
            due("waits till the last of " + n, marble().ith(n, n - 1), 1);
            if (n > 1) {
                due("waits", marble().ith(n, n - 2), 0);
            }
        }
        due("two of four", marble(2).ith(4, 1), 1);
        due("two of four", marble(2).ith(4, 0), 0);
    }

    void p24_theFirstIsThatWithTheLesserActWhereUnlikeFirst() {
        int[] want = {1, 2};
        for (int i = 0; i < 2; i++) {
            due("the one, then the other", twoMarbles().ith(2, i), want[i]);
        }
        for (int i = 0; i < 4; i++) {
            due("all the same: none", marbles(6, 60).ith(4, i), 0);
            due("no FIGURES: none", Scenes.bare().ith(4, i), 0);
        }
        due("one of six", sixMarbles().ith(1, 0), 1);
    }

    void p24_theGreatestActMayBeIt() {
        NymphRota x = marbles(6, 60);
        x.change(5, 1, 0);
        due("6", x.ith(1, 0), 6);
        due("0, then 6", x.ith(2, 0) * 10 + x.ith(2, 1), 6);
    }

    void p24_askingChangesNothing() {
        changesNothing(Scenes::rich, x -> x.ith(4, 0), x -> x.ith(4, 3));
    }

    // ---- promise 25

    void p25_nIs0To4() {
        ends(PlanEdges::marble, 0, 1, 4, 1, NymphRota::ways);
        refused(Scenes::rich, -1, x -> x.ways(-1), x -> x.ways(5));
    }

    void p25_nothingIsOneWay() {
        due("n 0", Scenes.rich().ways(0), 1);
        due("OVER", Scenes.over().ways(4), 1);
        due("no FIGURES", Scenes.bare().ways(4), 1);
    }

    void p25_allThatAreWorthMost() {
        due("7 by 7 by 7 by 7", marbles(6, 60).ways(4), 2401);
        due("2 by 2", marbles(1, 60).ways(2), 4);
        due("one of six", sixMarbles().ways(1), 6);
        due("two of six, in turn", sixMarbles().ways(2), 30);
        due("two of two, in turn", twoMarbles().ways(2), 2);
        due("five of five, but four in turn", fiveMarbles().ways(4), 120);
    }

    void p25_fewerIfItIsOver() {
        NymphRota x = marbles(6, 60);
        x.ends(3);
        due("7 by 7 by 7", x.ways(4), 343);
    }

    void p25_askingChangesNothing() {
        changesNothing(Scenes::rich, x -> x.ways(4));
    }

    // ---- promise 26

    void p26_nIs0To4() {
        ends(PlanEdges::twoMarbles, 0, 0, 4, 0, (x, v) -> x.roster(v, 0));
        refused(Scenes::rich, -1, x -> x.roster(-1, 1), x -> x.roster(5, 1));
    }

    void p26_figuresAreASetOfSuchAsThereAre() {
        ends(PlanEdges::twoMarbles, 0, 0, 3, 2, (x, v) -> x.roster(4, v));
        ends(PlanEdges::sixMarbles, 0, 0, 63, -3, (x, v) -> x.roster(4, v));
        ends(Scenes::bare, 0, 0, 0, 0, (x, v) -> x.roster(4, v));
        refused(Scenes::rich, -1, x -> x.roster(4, 32), x -> x.roster(4, 33), x -> x.roster(4, 63), x -> x.roster(4, -32));
    }

    void p26_theFewestThatAreNot0() {
        due("none", sixMarbles().roster(4, 0), 0);
        due("one", sixMarbles().roster(4, 32), 1);
        due("two", sixMarbles().roster(4, 33), 2);
        due("three", sixMarbles().roster(4, 42), 3);
        due("four", sixMarbles().roster(4, 60), 4);
    }

    void p26_noneIfBehindNoPlan() {
        refused(Scenes::rich, -3, x -> x.roster(0, 2), x -> x.roster(1, 6), x -> x.roster(2, 14), x -> x.roster(3, 30));
        refused(PlanEdges::sixMarbles, -3, x -> x.roster(4, 31), x -> x.roster(4, 62), x -> x.roster(3, 15));
        refused(Scenes::over, -3, x -> x.roster(4, 2));
        refused(() -> marbles(1, 60), -3, x -> x.roster(4, 1));
        refused(() -> Scenes.told("keep", 1, 0, 0), -3, x -> x.roster(4, 1));
    }

    void p26_whoIsAlreadyNeedsNoAct() {
        due("n 0", Scenes.rich().roster(0, 1), 0);
        due("OVER", Scenes.over().roster(4, 1), 0);
        due("one more", Scenes.rich().roster(1, 3), 1);
        due("two more", Scenes.rich().roster(2, 7), 2);
    }

    void p26_asManyAsAct() {
        NymphRota x = Scenes.one(1, 50, 0);
        Check.rules(x, "marble if tired > 9 smoke;");
        due("smokes twice: 25, 0", x.roster(3, 1), 3);
        due("smokes but once", x.roster(2, 1), -3);
        Check.rules(x, "marble if bell < 3 keep;");
        due("0s count not", x.roster(4, 1), 1);
        due("in the fourth alone", x.roster(3, 1), -3);
    }

    void p26_askingChangesNothing() {
        changesNothing(Scenes::rich, x -> x.roster(4, 1), x -> x.roster(4, 30), x -> x.roster(4, 6));
    }

    // ---- promise 27

    void p27_nIs0To4() {
        ends(PlanEdges::twoMarbles, 0, -3, 4, -3, (x, v) -> x.bars(v, 0));
        refused(Scenes::rich, -1, x -> x.bars(-1, 1), x -> x.bars(5, 1));
    }

    void p27_figuresAreASetOfSuchAsThereAre() {
        ends(() -> marbles(2, 60), 0, -3, 3, 0, (x, v) -> x.bars(4, v));
        ends(() -> marbles(6, 60), 0, -3, 63, 0, (x, v) -> x.bars(4, v));
        ends(Scenes::bare, 0, -3, 0, -3, (x, v) -> x.bars(4, v));
        refused(Scenes::rich, -1, x -> x.bars(4, 32), x -> x.bars(4, 33), x -> x.bars(4, 63), x -> x.bars(4, -32));
    }

    void p27_theLeastOfThem() {
        for (int k = 0; k < 6; k++) {
            due("the least", marbles(6, 60).bars(4, 63 << k & 63), k);
        }
        NymphRota x = marbles(6, 60);
        x.change(0, 1, 59);
        due("0 bars not", x.bars(1, 63), 1);
        x.change(1, 4, 1);
        due("1 is already", x.bars(1, 63), 2);
        due("2 is not asked for", x.bars(1, 35), 5);
    }

    void p27_noneIfEachIsSoBehindSome() {
        refused(PlanEdges::sixMarbles, -3, x -> x.bars(1, 63), x -> x.bars(4, 63), x -> x.bars(0, 0));
        refused(Scenes::rich, -3, x -> x.bars(0, 1));
        refused(Scenes::over, -3, x -> x.bars(4, 1));
    }

    void p27_nobodyIsSoInNoBell() {
        due("n 0", Scenes.rich().bars(0, 31), 1);
        due("OVER", Scenes.over().bars(4, 31), 1);
    }

    void p27_onlyInALaterBell() {
        NymphRota x = marble();
        Check.rules(x, "marble if bell < 3 keep;");
        due("in the fourth alone", x.bars(3, 1), 0);
        due("in the fourth", x.bars(4, 1), -3);
    }

    void p27_askingChangesNothing() {
        changesNothing(Scenes::rich, x -> x.bars(4, 31), x -> x.bars(0, 31));
    }

    // ---- promise 28

    void p28_nIs1To4() {
        ends(PlanEdges::marble, 1, 10, 4, 11, NymphRota::game);
        refused(Scenes::rich, -1, x -> x.game(0), x -> x.game(5));
        refused(Scenes::over, -1, x -> x.game(0), x -> x.game(5));
    }

    void p28_inTurnTheFirstMuchTheOtherLittle() {
        due("at once", marble().game(1), 10);
        due("at once, or 1 and 1", marble().game(2), 10);
        due("1, then 10, or 1 and 10", marble().game(3), 11);
        due("1, then 10", marble().game(4), 11);
    }

    void p28_eachBellGoesOnFromTheOneAhead() {
        due("58 and 59, then fainted", Scenes.told("keep", 1, 58, 0).game(4), 2);
        due("59, then fainted", Scenes.told("keep", 1, 59, 0).game(4), 1);
        NymphRota x = Scenes.kinds(0, 0);
        x.weather(1, 6);
        x.weather(2, 7);
        x.weather(3, 4);
        due("10, 16, 22 and 4: all keep", x.game(4), 52);
    }

    void p28_eachTriesAllActs() {
        NymphRota x = marbles(6, 60);
        x.change(5, 1, 0);
        due("the first one relieves the last", x.game(1), 10);
        Check.rules(x, "figure if bell = 0 keep; figure if number = 5 smoke;");
        due("the other one lets her smoke", x.game(2), 1);
    }

    void p28_tillItIsOver() {
        due("1 of 4", marble(1).game(4), 10);
        due("2 of 4", marble(2).game(4), 10);
        due("3 of 4", marble(3).game(4), 11);
        due("OVER", Scenes.over().game(4), 0);
        due("OVER", Scenes.over().game(1), 0);
    }

    void p28_noFigures() {
        due("nothing", Scenes.bare().game(4), 0);
    }

    void p28_askingChangesNothing() {
        changesNothing(Scenes::rich, x -> x.game(1), x -> x.game(4));
    }

    // ---- promise 29

    void p29_nIs1To4() {
        ends(PlanEdges::marble, 1, 1, 4, 0, NymphRota::play);
        refused(Scenes::rich, -1, x -> x.play(0), x -> x.play(5));
    }

    void p29_noneIfItIsOver() {
        refused(Scenes::over, -3, x -> x.play(1), x -> x.play(4));
        due("one BELL yet", marble(1).play(4), 1);
    }

    void p29_badIsNamedAheadOfNone() {
        refused(Scenes::over, -1, x -> x.play(0), x -> x.play(5), x -> x.play(-1));
    }

    void p29_theLeastActThatComesToIt() {
        due("all the same", marbles(6, 60).play(4), 0);
        due("no FIGURES", Scenes.bare().play(4), 0);
        due("one of six", sixMarbles().play(1), 1);
        NymphRota x = marbles(6, 60);
        x.change(5, 1, 0);
        due("the sixth alone", x.play(1), 6);
        due("1 and 10, then 1, by either", twoMarbles().play(2), 1);
        due("at once", marble().play(2), 1);
        due("waits", marble().play(3), 0);
    }

    void p29_askingChangesNothing() {
        changesNothing(Scenes::rich, x -> x.play(1), x -> x.play(4));
    }
}
