/** Promises 14 to 22. */
final class BellEdges extends Edges {
    // ---- promise 14

    void p14_overIsState() {
        refused(Scenes::over, -4, NymphRota::bell);
        refused(() -> Scenes.after(Scenes.rich(), 6), -4, NymphRota::bell);
    }

    void p14_theLastBellAheadOfEndGoesBy() {
        for (int end = 1; end <= 16; end++) {
            NymphRota x = Scenes.one(1, 0, 0);
            x.ends(end);
            Check.rules(x, "figure keep;");
            for (int bell = 0; bell < end; bell++) {
                due("BELL " + bell, x.bell(), 1);
            }
            due("END " + end, x.bell(), -4);
            due("BELL stays", x.state(0), end);
            due("SCORE", x.state(2), end);
        }
    }

    void p14_nobodyThereIsWorth0() {
        NymphRota x = Scenes.bare();
        due("WORTH", x.bell(), 0);
        due("BELL", x.state(0), 1);
        due("SCORE", x.state(2), 0);
    }

    private void tired(int kind, int at, int want) {
        NymphRota x = Scenes.told("keep", kind, at, 0);
        x.bell();
        due("KIND " + kind + " of " + at, x.figureOf(0, 1), want);
    }

    void p14_tiredIs99AtMost() {
        tired(4, 84, 98);
        tired(4, 85, 99);
        tired(4, 86, 99);
        tired(4, 99, 99);
        tired(1, 98, 99);
        tired(1, 99, 99);
    }

    void p14_whoIs59IsRelievedWhoIs60IsNot() {
        NymphRota x = Scenes.one(2, 59, 0);
        due("PAYS 3", x.bell(), 3);
        due("RELIEVED", x.state(4), 1);
        NymphRota y = Scenes.one(2, 60, 9);
        due("PAYS, SHOWS nothing", y.bell(), 0);
        due("not RELIEVED", y.state(4), 0);
        due("WEARIES yet", y.figureOf(0, 1), 67);
    }

    void p14_whoIsRelievedNeitherShowsNorWearies() {
        NymphRota x = Scenes.one(5, 16, 9);
        due("PAYS 17 alone", x.bell(), 17);
        due("TIRED stays", x.figureOf(0, 1), 16);
        due("nothing more", x.bell(), 0);
        due("TIRED stays", x.figureOf(0, 1), 16);
    }

    void p14_whoFaintsByThisBellStillShowsInIt() {
        NymphRota x = Scenes.told("keep", 4, 59, 0);
        due("SHOWS", x.bell(), 2);
        due("73", x.figureOf(0, 1), 73);
        due("no more", x.bell(), 0);
    }

    void p14_theLeastThatMayIsTold() {
        NymphRota x = Scenes.six();
        x.rules();
        Check.rules(x, "figure if number < 4 keep;");
        x.ends(4);
        x.bell();
        due("4, and 0 that was", x.state(4), 17);
        x.bell();
        due("then 5", x.state(4), 49);
    }

    void p14_whoFaintedOrIsRelievedIsPassedOver() {
        NymphRota x = Scenes.bare();
        x.figure(1, 60, 0, 0);
        x.figure(1, 0, 0, 0);
        x.figure(1, 0, 0, 0);
        x.change(1, 4, 1);
        x.bell();
        due("2, and 1 that was", x.state(4), 6);
    }

    private void smokes(int at, int want) {
        NymphRota x = Scenes.told("smoke", 2, at, 9);
        due("she counts not", Scenes.go(x, 1), 0);
        due("TIRED of " + at, x.figureOf(0, 1), want);
        due("not RELIEVED", x.state(4), 0);
    }

    void p14_smokeIs25LessBut0AtLeast() {
        smokes(0, 0);
        smokes(1, 0);
        smokes(24, 0);
        smokes(25, 0);
        smokes(26, 1);
        smokes(59, 34);
    }

    void p14_theSmokerCountsAgainInTheNextBell() {
        NymphRota x = Scenes.told("smoke", 2, 26, 9);
        Scenes.go(x, 1);
        due("1 and 3", Scenes.go(x, 0), 4);
        due("1 and 7", x.figureOf(0, 1), 8);
    }

    void p14_theOthersCountWhileOneSmokes() {
        NymphRota x = Scenes.kinds(40, 9);
        Check.rules(x, "novice smoke;");
        due("1, 4, 3 and 6", Scenes.go(x, 4), 14);
        int[] want = {41, 47, 42, 15, 54};
        for (int k = 0; k < 5; k++) {
            due("TIRED of " + k, x.figureOf(k, 1), want[k]);
        }
    }

    void p14_whoIsNotUpIsToldNothing() {
        NymphRota x = Scenes.told("smoke", 2, 60, 0);
        due("fainted", Scenes.go(x, 1), 0);
        due("60 and 7", x.figureOf(0, 1), 67);
        NymphRota y = Scenes.told("smoke", 2, 50, 0);
        y.change(0, 4, 1);
        due("RELIEVED", Scenes.go(y, 1), 0);
        due("as TIRED", y.figureOf(0, 1), 50);
        NymphRota z = Scenes.one(2, 60, 0);
        due("would relieve", Scenes.go(z, 1), 0);
        due("not RELIEVED", z.state(4), 0);
    }

    void p14_keepIsNothing() {
        NymphRota x = Scenes.told("keep", 2, 50, 9);
        due("SHOWS", Scenes.go(x, 1), 4);
        due("WEARIES", x.figureOf(0, 1), 57);
        NymphRota y = Scenes.told("keep", 2, 50, 9);
        due("as if none were told", Scenes.go(y, 0), 4);
        due("WEARIES", y.figureOf(0, 1), 57);
    }

    void p14_factsAreThoseOfTheBellThatGoesBy() {
        NymphRota x = Scenes.one(1, 0, 0);
        Check.rules(x, "figure if bell < 1 keep; figure if tired < 2 keep; figure if guests = 0 keep;");
        x.weather(2, 0);
        due("BELL 0", x.bell(), 1);
        due("TIRED 1", x.bell(), 1);
        due("no GUESTS", x.bell(), 0);
        due("relieved", x.bell(), 10);
    }

    void p14_wearyByTheBellThatGoesBy() {
        NymphRota x = Scenes.told("keep", 2, 0, 0);
        x.weather(0, 12);
        x.weather(1, 0);
        x.bell();
        due("SUN 3", x.figureOf(0, 1), 15);
        x.bell();
        due("SUN 0", x.figureOf(0, 1), 18);
        x.bell();
        x.bell();
        due("SUN 1, not a fourth yet", x.figureOf(0, 1), 32);
        x.bell();
        due("SUN 1, a fourth of 4", x.figureOf(0, 1), 40);
    }

    // ---- promise 15

    void p15_nIs0To16() {
        ends(() -> Scenes.one(1, 0, 0), 0, 0, 16, 10, NymphRota::on);
        refused(Scenes::rich, -1, x -> x.on(-1), x -> x.on(17));
        refused(Scenes::over, -1, x -> x.on(-1), x -> x.on(17));
    }

    void p15_fewerIfItIsOver() {
        NymphRota x = Scenes.told("keep", 1, 0, 0);
        due("11", x.on(11), 11);
        due("12", x.on(12), 12);
        due("13 of 12", x.on(13), 12);
        due("16 of 12", x.on(16), 12);
        x.ends(16);
        due("15", x.on(15), 15);
        due("16", x.on(16), 16);
        Scenes.after(x, 15);
        due("one yet", x.on(16), 1);
        x.bell();
        due("OVER", x.on(16), 0);
        due("OVER", x.on(1), 0);
    }

    void p15_askingChangesNothing() {
        changesNothing(Scenes::rich, x -> x.on(0), x -> x.on(1), x -> x.on(16));
        changesNothing(Scenes::over, x -> x.on(16));
    }

    void p15_asBellsWouldGoBy() {
        for (int n = 0; n <= 6; n++) {
            NymphRota x = Scenes.rich();
            int on = x.on(n);
            int worth = 0;
            for (int i = 0; i < n; i++) {
                worth += x.bell();
            }
            due("of " + n, on, worth);
        }
    }

    // ---- promise 16

    void p16_figuresAreThoseThereAre() {
        ends(Check::five, 0, 0, 4, 4, NymphRota::when);
        refused(Scenes::bare, -1, x -> x.when(0));
        refused(Scenes::over, -1, x -> x.when(5), x -> x.when(-1));
    }

    void p16_noneIfItIsNow() {
        refused(Scenes::rich, -3, x -> x.when(0));
    }

    void p16_noneIfItNeverIs() {
        refused(() -> Scenes.told("keep", 1, 0, 0), -3, x -> x.when(0));
        refused(() -> Scenes.told("smoke", 1, 0, 0), -3, x -> x.when(0));
        refused(() -> Scenes.one(1, 60, 0), -3, x -> x.when(0));
    }

    void p16_bellItselfIsTheFirst() {
        due("at BELL 0", Scenes.one(1, 0, 0).when(0), 0);
        due("at BELL 2", Scenes.rich().when(1), 2);
        due("at BELL 3", Scenes.rich().when(2), 3);
    }

    private static NymphRota twins(int end) {
        NymphRota x = Scenes.bare();
        x.figure(1, 0, 0, 0);
        x.figure(1, 0, 0, 0);
        x.ends(end);
        return x;
    }

    void p16_theLastBellAheadOfEndCounts() {
        due("BELL 1 of 2", twins(2).when(1), 1);
        refused(() -> twins(1), -3, x -> x.when(1));
        NymphRota x = Scenes.one(1, 0, 0);
        x.ends(16);
        Check.rules(x, "figure if bell < 15 keep;");
        due("BELL 15 of 16", x.when(0), 15);
    }

    void p16_overIsNone() {
        refused(Scenes::over, -3, x -> x.when(0), x -> x.when(1));
    }

    void p16_askingChangesNothing() {
        changesNothing(Scenes::rich, x -> x.when(0), x -> x.when(1), x -> x.when(4));
    }

    // ---- promise 17

    void p17_figuresAreThoseThereAre() {
        ends(Check::five, 0, 9, 4, 9, NymphRota::graceFor);
        refused(Scenes::bare, -1, x -> x.graceFor(0));
    }

    void p17_0Or9MayBeTheBest() {
        NymphRota x = Scenes.one(2, 0, 5);
        x.ends(1);
        Check.rules(x, "figure if grace > 0 keep;");
        due("0", x.graceFor(0), 0);
        Check.rules(x, "figure if grace < 9 keep;");
        due("9", x.graceFor(0), 9);
        Check.rules(x, "figure if grace < 4 keep; figure if grace > 4 keep;");
        due("4", x.graceFor(0), 4);
    }

    void p17_ofSeveralTheLeast() {
        due("never counts", Scenes.told("keep", 1, 0, 7).graceFor(0), 0);
        due("fainted", Scenes.one(2, 60, 7).graceFor(0), 0);
        NymphRota x = Scenes.one(2, 0, 7);
        x.change(0, 4, 1);
        due("RELIEVED", x.graceFor(0), 0);
        NymphRota y = Scenes.told("keep", 2, 0, 7);
        y.ends(1);
        due("only 9 has three thirds", y.graceFor(0), 9);
        Check.rules(y, "figure if grace > 8 smoke; figure if grace = 9 relieve; figure keep;");
        y.weather(0, 12);
        due("nor is she told, but may not", y.graceFor(0), 9);
    }

    void p17_overTheLeast() {
        due("OVER", Scenes.over().graceFor(1), 0);
    }

    void p17_askingChangesNothing() {
        for (int k = 0; k < 5; k++) {
            int asked = k;
            changesNothing(Scenes::rich, x -> x.graceFor(asked));
        }
    }

    // ---- promise 18

    /** SHADE of 9 in one NICHE alone; a novice who stands there is UP for two BELLS. */
    private static NymphRota shaded(int niche) {
        NymphRota x = Scenes.told("keep", 4, 50, 0);
        x.niche(niche, 0, 9);
        return x;
    }

    void p18_figuresAreThoseThereAre() {
        ends(() -> {
            NymphRota x = Scenes.kinds(50, 0);
            x.niche(3, 0, 9);
            return x;
        }, 0, 3, 4, 3, NymphRota::nicheFor);
        refused(Scenes::bare, -1, x -> x.nicheFor(0));
    }

    void p18_eachNicheMayBeTheBest() {
        for (int niche = 0; niche <= 5; niche++) {
            due("SHADE in " + niche, shaded(niche).nicheFor(0), niche);
        }
    }

    void p18_ofSeveralTheLeast() {
        NymphRota x = shaded(5);
        x.niche(3, 0, 9);
        due("3 or 5", x.nicheFor(0), 3);
        x.niche(3, 0, 4);
        due("5 less than 60 is enough", x.nicheFor(0), 5);
        x.niche(3, 0, 5);
        due("14 less 5 and 50 is 59", x.nicheFor(0), 3);
        due("none is better", Scenes.told("keep", 1, 0, 0).nicheFor(0), 0);
        due("OVER", Scenes.over().nicheFor(2), 0);
    }

    void p18_askingChangesNothing() {
        for (int k = 0; k < 5; k++) {
            int asked = k;
            changesNothing(Scenes::rich, x -> x.nicheFor(asked));
        }
    }

    // ---- promise 19

    void p19_figuresAreThoseThereAre() {
        ends(() -> Scenes.kinds(50, 0), 0, 10, 4, 1, NymphRota::faints);
        refused(Scenes::bare, -1, x -> x.faints(0));
        refused(Scenes::over, -1, x -> x.faints(-1), x -> x.faints(5));
    }

    void p19_60Is59IsNotYet() {
        due("46 and 14", Scenes.told("keep", 4, 46, 0).faints(0), 1);
        due("45 and 14", Scenes.told("keep", 4, 45, 0).faints(0), 2);
        due("59", Scenes.told("keep", 1, 59, 0).faints(0), 1);
        due("60", Scenes.told("keep", 1, 60, 0).faints(0), 0);
    }

    void p19_bellItselfIf60NowRelievedOrNot() {
        NymphRota x = Scenes.rich();
        x.change(0, 1, 60);
        due("RELIEVED", x.faints(0), 2);
        x.change(1, 1, 60);
        due("not RELIEVED", x.faints(1), 2);
        x.change(1, 1, 99);
        due("99", x.faints(1), 2);
    }

    void p19_whoIsRelievedAndBelow60Never() {
        NymphRota x = Scenes.one(4, 59, 0);
        x.change(0, 4, 1);
        due("59", x.faints(0), -3);
        due("relieved at once", Scenes.one(4, 59, 0).faints(0), -3);
    }

    void p19_bellItselfWhenOver() {
        NymphRota x = Scenes.over();
        x.change(1, 1, 60);
        due("60", x.faints(1), 2);
        x.change(1, 1, 59);
        due("59", x.faints(1), -3);
    }

    /** As BELL becomes END, TIRED is 60: the first BELL as which it is so is END. */
    void p19_endItselfIsTheLast() {
        NymphRota x = Scenes.told("keep", 1, 44, 0);
        x.ends(16);
        due("44 and 16", x.faints(0), 16);
        x.change(0, 1, 43);
        due("43 and 16", x.faints(0), -3);
        x.change(0, 1, 45);
        due("45 and 15", x.faints(0), 15);
        NymphRota y = Scenes.told("keep", 4, 46, 0);
        y.ends(1);
        due("END 1", y.faints(0), 1);
    }

    void p19_noneIsRefused() {
        refused(Scenes::rich, -3, x -> x.faints(0));
        refused(Scenes::over, -3, x -> x.faints(1));
    }

    void p19_inTheRestOthersAreRelievedFirst() {
        NymphRota x = Scenes.bare();
        x.figure(1, 0, 0, 0);
        x.figure(1, 0, 0, 0);
        x.figure(4, 40, 0, 0);
        due("40, 54, 68", x.faints(2), 2);
        x.change(2, 1, 31);
        due("31, 45, 59: relieved in BELL 2", x.faints(2), -3);
    }

    void p19_askingChangesNothing() {
        changesNothing(Scenes::rich, x -> x.faints(1), x -> x.faints(3), x -> x.faints(4));
    }

    // ---- promise 20

    void p20_figuresAreThoseThereAre() {
        ends(Check::five, 0, 3, 4, 0, NymphRota::rank);
        refused(Scenes::bare, -1, x -> x.rank(0));
    }

    void p20_noneIfItIsNotUp() {
        refused(Scenes::rich, -3, x -> x.rank(0));
        refused(() -> Scenes.one(1, 60, 0), -3, x -> x.rank(0));
        due("59 is UP", Scenes.one(1, 59, 0).rank(0), 0);
    }

    void p20_asTiredAndOfALessNumber() {
        NymphRota x = Scenes.bare();
        for (int k = 0; k < 6; k++) {
            x.figure(1, 20, 0, 0);
        }
        for (int k = 0; k < 6; k++) {
            due("all alike: " + k, x.rank(k), k);
        }
        x.change(5, 1, 21);
        due("one more TIRED", x.rank(5), 0);
        due("ahead of 0", x.rank(0), 1);
        x.change(5, 1, 19);
        due("one less", x.rank(5), 5);
        due("ahead of 4", x.rank(4), 4);
    }

    void p20_othersThatAreNotUpCountNot() {
        NymphRota x = Scenes.bare();
        x.figure(1, 59, 0, 0);
        x.figure(1, 0, 0, 0);
        due("59 counts", x.rank(1), 1);
        x.change(0, 1, 60);
        due("60 counts not", x.rank(1), 0);
        x.change(0, 1, 59);
        x.change(0, 4, 1);
        due("RELIEVED ones count not", x.rank(1), 0);
    }

    void p20_askingChangesNothing() {
        changesNothing(Scenes::rich, x -> x.rank(1), x -> x.rank(4));
    }

    // ---- promise 21

    void p21_whatIsMinus1To5() {
        ends(Scenes::six, -1, 2, 5, 42, NymphRota::rings);
    }

    void p21_noSuchFigureIsBad() {
        refused(Scenes::rich, -1, x -> x.rings(5));
        refused(Scenes::bare, -1, x -> x.rings(0), x -> x.rings(5));
    }

    void p21_noFiguresNoRings() {
        due("none there", Scenes.bare().rings(-1), 0);
        NymphRota x = Scenes.one(1, 60, 0);
        due("none UP", x.rings(-1), 0);
        x.change(0, 1, 59);
        due("59 is UP", x.rings(-1), 1);
        x.change(0, 4, 1);
        due("RELIEVED", x.rings(-1), 0);
    }

    void p21_0IfItIsNotUp() {
        due("RELIEVED", Scenes.rich().rings(0), 0);
        NymphRota x = Scenes.one(1, 60, 0);
        due("fainted", x.rings(0), 0);
        x.change(0, 1, 59);
        due("59 is UP", x.rings(0), 1);
    }

    void p21_nextToEachOtherRoundTheRing() {
        for (int a = 0; a <= 5; a++) {
            for (int b = 0; b <= 5; b++) {
                NymphRota x = Scenes.bare();
                x.figure(1, 0, 0, a);
                x.figure(1, 0, 0, b);
                int apart = (b - a + 6) % 6;
                boolean close = apart == 0 || apart == 1 || apart == 5;
                due(a + " and " + b, x.rings(0), close ? 3 : 1);
                due(a + " and " + b, x.rings(-1), close ? 1 : 2);
            }
        }
    }

    void p21_whoIsNotUpHangsNobodyTogether() {
        NymphRota x = Scenes.bare();
        x.figure(1, 0, 0, 0);
        x.figure(1, 0, 0, 1);
        x.figure(1, 0, 0, 2);
        due("all", x.rings(2), 7);
        x.change(1, 4, 1);
        due("RELIEVED", x.rings(2), 4);
        due("two", x.rings(-1), 2);
        x.change(1, 4, 0);
        x.change(1, 1, 60);
        due("fainted", x.rings(0), 1);
        x.change(1, 1, 59);
        due("59", x.rings(0), 7);
    }

    void p21_theLongestChainHangsTogether() {
        int[][] places = {{0, 1, 2, 3, 4, 5}, {5, 4, 3, 2, 1, 0}, {0, 4, 1, 3, 2, 2}, {4, 0, 3, 1, 2, 2}};
        for (int[] place : places) {
            NymphRota x = Scenes.bare();
            for (int niche : place) {
                x.figure(1, 0, 0, niche);
            }
            due("one", x.rings(-1), 1);
            for (int k = 0; k < 6; k++) {
                due("of " + k, x.rings(k), 63);
            }
        }
    }

    void p21_threeRingsAtMost() {
        NymphRota x = Scenes.bare();
        for (int k = 0; k < 6; k++) {
            x.figure(1, 0, 0, 2 * (k % 3));
        }
        due("three", x.rings(-1), 3);
        due("0 and 3", x.rings(0), 9);
        due("2 and 5", x.rings(5), 36);
    }

    void p21_askingChangesNothing() {
        changesNothing(Scenes::rich, x -> x.rings(-1), x -> x.rings(0), x -> x.rings(4));
    }

    // ---- promise 22

    void p22_fromIs0To5() {
        ends(Scenes::rich, 0, 0, 5, 1, (x, v) -> x.way(v, 0, 9));
    }

    void p22_toIs0To5() {
        ends(Scenes::rich, 0, 0, 5, 1, (x, v) -> x.way(0, v, 9));
    }

    void p22_mostIs0To9() {
        ends(Scenes::rich, 0, 4, 9, 2, (x, v) -> x.way(3, 5, v));
    }

    void p22_noMoreWetThanTold() {
        due("6 of 5", Scenes.rich().way(3, 5, 5), 4);
        due("6 of 6", Scenes.rich().way(3, 5, 6), 2);
        NymphRota x = Scenes.bare();
        x.niche(1, 1, 9);
        due("9 of 8", x.way(0, 2, 8), 4);
        due("9 of 9", x.way(0, 2, 9), 2);
    }

    void p22_theSameIs0HoweverWet() {
        NymphRota x = Scenes.bare();
        for (int f = 0; f <= 5; f++) {
            x.niche(f, 1, 9);
            due("the same", x.way(f, f, 0), 0);
        }
    }

    void p22_theLastOneIsSteppedOnTooTheFirstIsNot() {
        due("to 4", Scenes.rich().way(3, 4, 5), -3);
        due("from 4", Scenes.rich().way(4, 3, 5), 1);
        due("from 4", Scenes.rich().way(4, 5, 5), 1);
    }

    void p22_oneWayOrTheOtherTheFewest() {
        for (int from = 0; from <= 5; from++) {
            int[] want = {0, 1, 2, 3, 2, 1};
            for (int steps = 0; steps <= 5; steps++) {
                due(from + " by " + steps, Scenes.bare().way(from, (from + steps) % 6, 0), want[steps]);
            }
        }
        NymphRota x = Scenes.bare();
        x.niche(3, 1, 1);
        due("five steps", x.way(2, 4, 0), 4);
        due("the other way", x.way(4, 2, 0), 4);
        x.niche(5, 1, 1);
        due("five steps", x.way(0, 4, 0), -3);
        NymphRota y = Scenes.bare();
        y.niche(0, 1, 1);
        due("0 is next to 5", y.way(5, 1, 0), 4);
        due("and 5 to 0", y.way(1, 5, 0), 4);
        y.niche(0, 1, 0);
        y.niche(2, 1, 1);
        due("three by the one way alone", y.way(1, 4, 0), 3);
    }

    void p22_noneIsRefused() {
        refused(Scenes::rich, -3, x -> x.way(0, 4, 5));
        refused(() -> {
            NymphRota x = Scenes.rich();
            x.niche(1, 1, 7);
            return x;
        }, -3, x -> x.way(3, 0, 5), x -> x.way(2, 5, 5));
        due("the one of them is not stepped on", Scenes.rich().way(3, 0, 5), 3);
    }

    void p22_askingChangesNothing() {
        changesNothing(Scenes::rich, x -> x.way(0, 3, 0), x -> x.way(3, 5, 9));
    }

    void p22_badIsNamedAheadOfNone() {
        refused(Scenes::rich, -1, x -> x.way(0, 4, -1), x -> x.way(-1, 4, 0), x -> x.way(6, 6, 0));
    }
}
