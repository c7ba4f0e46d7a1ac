/** Promises 30 to 36. */
final class StrangerEdges extends Edges {
    // ---- promise 30

    void p30_kIs0To15() {
        ends(Scenes::rich, 0, 2, 15, 2, (x, v) -> x.report(v, 0, 0, 99));
    }

    void p30_askedIs0Or1() {
        ends(Scenes::rich, 0, 2, 1, 2, (x, v) -> x.report(0, v, 0, 99));
    }

    void p30_tiredIs0To99() {
        ends(Scenes::rich, 0, 2, 99, 2, (x, v) -> x.report(0, 0, v, 99));
        ends(Scenes::rich, 0, 2, 99, 2, (x, v) -> x.report(0, 0, 0, v));
        refused(Scenes::rich, -1, x -> x.report(0, 0, 100, 100), x -> x.report(0, 0, -1, -1));
    }

    void p30_shownIs0To999() {
        ends(Scenes::rich, 0, 2, 999, 2, (x, v) -> x.report(0, 1, v, 999));
        ends(Scenes::rich, 0, 2, 999, 2, (x, v) -> x.report(0, 1, 0, v));
        refused(Scenes::rich, -1, x -> x.report(0, 1, 1000, 1000), x -> x.report(0, 1, -1, -1));
    }

    void p30_mostBelowLeastIsBad() {
        refused(Scenes::rich, -1, x -> x.report(0, 0, 1, 0), x -> x.report(0, 0, 99, 98), x -> x.report(0, 1, 999, 998),
                x -> x.report(0, 1, 1, 0), x -> x.report(0, 0, 99, 0));
        due("as LEAST", Scenes.rich().report(0, 0, 5, 5), 2);
        due("as LEAST", Scenes.rich().report(0, 0, 0, 0), 2);
        due("as LEAST", Scenes.rich().report(0, 0, 99, 99), 2);
        due("as LEAST", Scenes.rich().report(0, 1, 999, 999), 2);
        due("as LEAST", Scenes.rich().report(0, 1, 0, 0), 2);
    }

    void p30_sixAtMostNumberedAsTheyCome() {
        NymphRota x = Scenes.bare();
        for (int r = 0; r < 6; r++) {
            due("its number", x.report(15, 0, 0, 99), r);
        }
        due("six", x.many(3), 6);
    }

    void p30_theSeventhIsFull() {
        refused(Scenes::reported, -2, x -> x.report(0, 0, 0, 0), x -> x.report(15, 1, 999, 999));
    }

    void p30_badIsNamedAheadOfFull() {
        refused(Scenes::reported, -1, x -> x.report(16, 0, 0, 0), x -> x.report(-1, 0, 0, 0), x -> x.report(0, 2, 0, 0),
                x -> x.report(0, -1, 0, 0), x -> x.report(0, 0, -1, 0), x -> x.report(0, 0, 0, 100),
                x -> x.report(0, 1, 0, 1000), x -> x.report(0, 0, 2, 1));
    }

    // ---- promise 31

    void p31_noneAnswers0() {
        due("none", Scenes.bare().forget(), 0);
        changesNothing(Scenes::bare, NymphRota::forget);
    }

    void p31_sixAreForgotten() {
        NymphRota x = Scenes.reported();
        due("six", x.forget(), 6);
        due("none", x.many(3), 0);
        due("none", x.forget(), 0);
        due("all FIT", x.nymph(0), 500);
    }

    void p31_sixMoreMayCome() {
        NymphRota x = Scenes.reported();
        x.forget();
        for (int r = 0; r < 6; r++) {
            due("its number", x.report(0, 0, 0, 99), r);
        }
        due("the seventh", x.report(0, 0, 0, 99), -2);
    }

    void p31_whatWasForgottenIsNoLongerAsked() {
        NymphRota x = Scenes.bare();
        for (int r = 0; r < 6; r++) {
            x.report(0, 1, 1, 1);
        }
        x.forget();
        x.report(0, 0, 0, 0);
        due("those of TIRED 0", x.nymph(0), 50);
        due("some FIT", x.liar(), -3);
    }

    // ---- promise 32

    void p32_whatIs0To3() {
        ends(Scenes::bare, 0, 500, 3, 0, NymphRota::nymph);
        refused(Scenes::rich, -1, x -> x.nymph(-1), x -> x.nymph(4));
    }

    private static NymphRota told(int k, int asked, int least, int most) {
        NymphRota x = Scenes.bare();
        x.report(k, asked, least, most);
        return x;
    }

    private static NymphRota unfit() {
        NymphRota x = Scenes.rich();
        x.report(0, 1, 1, 999);
        return x;
    }

    void p32_noneIfNoneFits() {
        due("how many", unfit().nymph(0), 0);
        refused(StrangerEdges::unfit, -3, x -> x.nymph(1), x -> x.nymph(2), x -> x.nymph(3));
    }

    void p32_badIsNamedAheadOfNone() {
        refused(StrangerEdges::unfit, -1, x -> x.nymph(4), x -> x.nymph(-1));
    }

    void p32_leastAndMostCountThemselves() {
        due("20 to 20", told(0, 0, 20, 20).nymph(0), 50);
        due("11 to 20", told(0, 0, 11, 20).nymph(0), 50);
        due("20 to 29", told(0, 0, 20, 29).nymph(0), 50);
        due("21 to 29", told(0, 0, 21, 29).nymph(0), 0);
        due("20 to 30", told(0, 0, 20, 30).nymph(0), 100);
        due("all", told(0, 0, 0, 99).nymph(0), 500);
    }

    void p32_tiredAtFirstIs0To90ByTens() {
        due("0", told(0, 0, 0, 9).nymph(0), 50);
        due("90", told(0, 0, 90, 99).nymph(0), 50);
        due("90", told(0, 0, 90, 99).nymph(3), 90);
        due("none between", told(0, 0, 81, 89).nymph(0), 0);
        due("none of 99", told(0, 0, 91, 99).nymph(0), 0);
    }

    void p32_kindsAre1To5GraceIs0To9() {
        NymphRota x = told(1, 1, 4, 4);
        due("girls of GRACE 9 that are UP: TIRED 0 to 50", x.nymph(0), 6);
        due("girl", x.nymph(1), 2);
        due("9", x.nymph(2), 9);
        due("0", x.nymph(3), 0);
        due("a marble", told(1, 0, 1, 1).nymph(1), 1);
        due("nobody WEARIES 0 in BELL 0", told(1, 0, 0, 0).nymph(0), 0);
        NymphRota y = told(2, 0, 14, 14);
        y.report(1, 0, 14, 14);
        due("a dreamer in the odd BELL", y.nymph(1), 5);
        due("all GRACES", y.nymph(0), 10);
    }

    void p32_behindNoBellNothingIsShown() {
        due("0", told(0, 1, 0, 0).nymph(0), 500);
        due("1", told(0, 1, 1, 999).nymph(0), 0);
    }

    void p32_fifteenBellsAtMost() {
        NymphRota x = told(15, 0, 15, 15);
        due("marbles of 0", x.nymph(0), 10);
        due("marble", x.nymph(1), 1);
        due("0", x.nymph(3), 0);
        x.weather(15, 15);
        due("BELL 15 is not asked", x.nymph(0), 10);
        NymphRota y = told(15, 1, 15, 15);
        y.report(0, 0, 40, 40);
        due("15 times 1", y.nymph(1), 1);
        y.weather(14, 0);
        due("BELL 14 is", y.nymph(1) == 1 ? 1 : 0, 0);
    }

    void p32_tiredIs99AtMost() {
        NymphRota x = told(15, 0, 99, 99);
        x.report(0, 0, 90, 90);
        due("all of 90", x.nymph(0), 50);
        due("a marble, too", x.nymph(1), 1);
    }

    void p32_whoFaintedShowsNothingMore() {
        NymphRota x = told(0, 0, 60, 60);
        x.report(15, 1, 0, 0);
        due("all of 60", x.nymph(0), 50);
        NymphRota y = told(0, 0, 50, 50);
        y.report(15, 1, 10, 10);
        due("ten of fifteen", y.nymph(1), 1);
    }

    void p32_itsNumberIs0() {
        NymphRota x = told(1, 0, 14, 14);
        x.report(2, 0, 14, 14);
        x.report(1, 1, 2, 2);
        due("dreamers of 0 that SHOW 2", x.nymph(0), 10);
    }

    void p32_inNoShadeToldNothingByWeatherAloneFromBell0() {
        NymphRota x = told(2, 0, 2, 2);
        for (int f = 0; f <= 5; f++) {
            x.niche(f, 0, 9);
        }
        Check.rules(x, "figure smoke;");
        x.ends(1);
        x.bell();
        due("marbles of 0", x.nymph(0), 10);
        due("marble", x.nymph(1), 1);
        x.weather(0, 0);
        x.weather(1, 0);
        due("girls of 6, matrons of 0: none of 2", x.nymph(1), 1);
        x.forget();
        x.report(2, 0, 6, 6);
        due("by WEATHER as it is: girls", x.nymph(1), 2);
        due("girls; dreamers", x.nymph(0), 20);
    }

    void p32_theLeastKindThenGraceThenTired() {
        NymphRota x = told(1, 1, 2, 2);
        x.report(0, 0, 20, 50);
        due("a girl", x.nymph(1), 2);
        due("of GRACE 3", x.nymph(2), 3);
        due("of TIRED 20", x.nymph(3), 20);
    }

    void p32_sixReportsAllCount() {
        NymphRota x = Scenes.bare();
        for (int r = 0; r < 5; r++) {
            x.report(0, 0, 0, 99);
        }
        due("all", x.nymph(0), 500);
        x.report(0, 0, 70, 70);
        due("by the sixth", x.nymph(0), 50);
    }

    void p32_askingChangesNothing() {
        changesNothing(Scenes::rich, x -> x.nymph(0), x -> x.nymph(1), x -> x.nymph(2), x -> x.nymph(3));
    }

    // ---- promise 33

    void p33_noneIfSomeFit() {
        refused(Scenes::rich, -3, NymphRota::liar);
    }

    void p33_noneIfThereIsNoSuchReport() {
        refused(Scenes::bare, -3, NymphRota::liar);
        refused(() -> {
            NymphRota x = unfit();
            x.report(0, 1, 1, 999);
            return x;
        }, -3, NymphRota::liar);
    }

    private static int liar(int... tens) {
        NymphRota x = Scenes.bare();
        for (int ten : tens) {
            x.report(0, 0, 10 * ten, 10 * ten);
        }
        return x.liar();
    }

    void p33_eachOfSixMayBeIt() {
        for (int liar = 0; liar < 6; liar++) {
            int[] tens = {4, 4, 4, 4, 4, 4};
            tens[liar] = 3;
            due("the liar", liar(tens), liar);
        }
    }

    void p33_theLeastIfThereAreTwo() {
        due("either", liar(4, 3), 0);
        NymphRota x = told(0, 0, 20, 30);
        x.report(0, 0, 20, 20);
        x.report(0, 0, 30, 30);
        due("the second or the third", x.liar(), 1);
    }

    void p33_oneAloneThatNoneFits() {
        NymphRota x = told(0, 1, 1, 1);
        due("0", x.liar(), 0);
    }

    void p33_twoLiarsAreNone() {
        due("two by two", liar(3, 3, 4, 4), -3);
        due("three", liar(1, 2, 3), -3);
    }

    void p33_askedAgainAsReportsCome() {
        NymphRota x = told(0, 0, 20, 20);
        due("FITS", x.liar(), -3);
        x.report(0, 0, 30, 30);
        due("either", x.liar(), 0);
        x.report(0, 0, 40, 40);
        due("two liars", x.liar(), -3);
        x.forget();
        due("no REPORTS", x.liar(), -3);
        x.report(0, 1, 1, 1);
        due("one alone", x.liar(), 0);
    }

    void p33_askingChangesNothing() {
        changesNothing(StrangerEdges::unfit, NymphRota::liar);
    }

    // ---- promise 34

    void p34_anyIntIsTaken() {
        int[] all = {0, 1, -1, Integer.MAX_VALUE, Integer.MIN_VALUE};
        NymphRota x = Scenes.bare();
        int was = 1;
        for (int v : all) {
            due("was", x.seed(v), was);
            was = v;
        }
        due("was", x.seed(7), Integer.MIN_VALUE);
    }

    // ---- promise 35

    void p35_overIsState() {
        refused(Scenes::over, -4, NymphRota::lot);
    }

    private static int behind(int z) {
        NymphRota x = Scenes.bare();
        x.seed(z);
        x.lot();
        return x.seed(0);
    }

    void p35_zWrapsAround() {
        due("of 0", behind(0), 12345);
        due("of 1", behind(1), 1103527590);
        due("of 2", behind(2), -2087924461);
        due("of -1", behind(-1), -1103502900);
        due("of the most", behind(Integer.MAX_VALUE), 1043980748);
        due("of the least", behind(Integer.MIN_VALUE), -2147471303);
    }

    private static int act(int z, int figures) {
        NymphRota x = Scenes.bare();
        for (int k = 0; k < figures; k++) {
            x.figure(1, 0, 0, 0);
        }
        x.seed(z);
        x.lot();
        return Integer.numberOfTrailingZeros(x.state(4)) + 1;
    }

    void p35_theActIsWhatTheUpperHalfLeaves() {
        due("16838 by 7", act(1, 6), 3);
        due("33676 by 7: no sign", act(2, 6), 6);
        due("0 by 7", act(0, 6), 33);
        due("16838 by 4", act(1, 3), 2);
        due("33676 by 4", act(2, 3), 33);
        due("33676 by 6", act(2, 5), 4);
    }

    void p35_noFiguresNoneIsTold() {
        NymphRota x = Scenes.bare();
        due("WORTH", x.lot(), 0);
        due("BELL", x.state(0), 1);
    }

    void p35_theLastBell() {
        NymphRota x = Scenes.bare();
        x.ends(1);
        due("goes by", x.lot(), 0);
        due("OVER", x.lot(), -4);
        due("z is as it was then", x.seed(0), 1103527590);
    }

    void p35_itCountsToScore() {
        NymphRota x = Scenes.rich();
        int worth = x.lot();
        due("SCORE", x.state(2), 23 + worth);
        due("BELL", x.state(0), 3);
    }

    // ---- promise 36

    void p36_nIs1To40() {
        ends(Scenes::rich, 1, 1, 40, 40, (x, v) -> x.times(v, 0));
    }

    void p36_vIs0To999() {
        ends(Scenes::rich, 0, 7, 999, 0, (x, v) -> x.times(7, v));
        refused(Scenes::over, -1, x -> x.times(7, -1), x -> x.times(7, 1000), x -> x.times(0, 1), x -> x.times(41, 1));
    }

    void p36_vItselfCounts() {
        NymphRota x = Scenes.told("keep", 1, 0, 0);
        due("12", x.times(9, 12), 9);
        due("13", x.times(9, 13), 0);
        due("nothing is 0 or more", Scenes.bare().times(9, 0), 9);
        due("nothing is not 1", Scenes.bare().times(9, 1), 0);
    }

    void p36_whenOverNothingIsWorth0() {
        due("0", Scenes.over().times(40, 0), 40);
        due("1", Scenes.over().times(40, 1), 0);
    }

    /** One marble, for one BELL: ACT 0 is WORTH 1, ACT 1 is WORTH 10. */
    void p36_zGoesOnFromOneToTheNext() {
        NymphRota x = Scenes.one(1, 0, 0);
        x.ends(1);
        int z = 1;
        int relieved = 0;
        for (int n = 1; n <= 40; n++) {
            z = z * 1103515245 + 12345;
            relieved += (z >>> 16) % 2;
            due("of " + n, x.times(n, 10), relieved);
        }
        due("z is as it was", x.seed(0), 1);
    }

    void p36_askingChangesNothing() {
        changesNothing(Scenes::rich, x -> x.times(1, 0), x -> x.times(40, 999));
    }
}
