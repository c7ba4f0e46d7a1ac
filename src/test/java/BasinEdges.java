/** Promises 1 to 11. */
final class BasinEdges extends Edges {
    // ---- promise 1

    void p01_aNewObjectHasNoFigures() {
        due("FIGURES", Scenes.bare().many(0), 0);
        due("those RELIEVED", Scenes.bare().many(2), 0);
        due("FIGURE 0", Scenes.bare().figureOf(0, 0), -1);
    }

    void p01_aNewObjectHasNoRules() {
        due("RULES", Scenes.bare().many(1), 0);
        for (int kind = 1; kind <= 5; kind++) {
            due("no RULE tells", Scenes.one(kind, 0, 0).figureOf(0, 9), 0);
        }
    }

    void p01_aNewObjectHasNoReports() {
        due("REPORTS", Scenes.bare().many(3), 0);
        due("all FIT", Scenes.bare().nymph(0), 500);
    }

    void p01_nothingIsKept() {
        refused(Scenes::bare, -3, NymphRota::again);
    }

    void p01_atFirstBellIs0OfEnd12AndScore0() {
        NymphRota x = Scenes.bare();
        due("BELL", x.state(0), 0);
        due("END", x.state(1), 12);
        due("SCORE", x.state(2), 0);
        due("OVER", x.state(3), 0);
    }

    void p01_weatherIs5AtFirstOfAllBells() {
        NymphRota x = Scenes.bare();
        for (int bell = 0; bell <= 15; bell++) {
            due("WEATHER of " + bell, x.weather(bell, 5), 5);
        }
    }

    void p01_shadeAndWetAre0AtFirst() {
        NymphRota x = Scenes.bare();
        for (int f = 0; f <= 5; f++) {
            due("SHADE", x.nicheOf(f, 0), 0);
            due("WET", x.nicheOf(f, 1), 0);
        }
    }

    void p01_theTapeRowsSheetsShelvesTraceAreEmptyAtFirst() {
        NymphRota x = Scenes.bare();
        due("ROWS", x.many(4), 0);
        due("THE TAPE", x.many(5), 0);
        due("THE TRACE", x.many(6), 0);
        for (int i = 0; i <= 3; i++) {
            due("SHEET " + i, x.write(i, 0, 0), -11);
            due("SHELF " + i, x.taken(i, 0), -11);
        }
    }

    void p01_objectsShareNothing() {
        NymphRota x = Scenes.bare();
        Scenes.rich();
        alike("as if alone", x, Scenes.bare());
    }

    // ---- promise 2

    void p02_kindIs1To5() {
        ends(Scenes::rich, 1, 5, 5, 5, (x, v) -> x.figure(v, 1, 1, 1));
    }

    void p02_tiredIs0To99() {
        ends(Scenes::rich, 0, 5, 99, 5, (x, v) -> x.figure(1, v, 1, 1));
    }

    void p02_graceIs0To9() {
        ends(Scenes::rich, 0, 5, 9, 5, (x, v) -> x.figure(1, 1, v, 1));
    }

    void p02_nicheIs0To5() {
        ends(Scenes::rich, 0, 5, 5, 5, (x, v) -> x.figure(1, 1, 1, v));
    }

    void p02_theLeastAndTheMostAreHeldAsTold() {
        NymphRota x = Scenes.bare();
        x.figure(1, 0, 0, 0);
        x.figure(5, 99, 9, 5);
        int[] least = {1, 0, 0, 0, 0};
        int[] most = {5, 99, 9, 5, 0};
        for (int what = 0; what <= 4; what++) {
            due("least " + what, x.figureOf(0, what), least[what]);
            due("most " + what, x.figureOf(1, what), most[what]);
        }
    }

    void p02_sixAtMostAndNumberedAsTheyCome() {
        NymphRota x = Scenes.bare();
        for (int k = 0; k < 6; k++) {
            due("its number", x.figure(1, 0, 0, 0), k);
        }
        due("six", x.many(0), 6);
    }

    void p02_theSeventhIsFull() {
        refused(Scenes::six, -2, x -> x.figure(1, 0, 0, 0), x -> x.figure(5, 99, 9, 5));
    }

    void p02_badIsNamedAheadOfFull() {
        refused(Scenes::six, -1, x -> x.figure(0, 0, 0, 0), x -> x.figure(6, 0, 0, 0), x -> x.figure(1, -1, 0, 0),
                x -> x.figure(1, 100, 0, 0), x -> x.figure(1, 0, -1, 0), x -> x.figure(1, 0, 10, 0),
                x -> x.figure(1, 0, 0, -1), x -> x.figure(1, 0, 0, 6));
    }

    void p02_theNextOneAfterAgainIsNotRelieved() {
        NymphRota x = Scenes.bare();
        x.keep();
        x.figure(1, 0, 0, 0);
        x.change(0, 4, 1);
        x.again();
        due("number 0 once more", x.figure(1, 0, 0, 0), 0);
        due("not RELIEVED at first", x.figureOf(0, 4), 0);
    }

    // ---- promise 3

    void p03_figuresAreThoseThereAre() {
        ends(Scenes::rich, 0, 2, 4, 3, (x, v) -> x.figureOf(v, 0));
        refused(Scenes::bare, -1, x -> x.figureOf(0, 0));
        due("the sixth", Scenes.six().figureOf(5, 0), 1);
        due("no seventh", Scenes.six().figureOf(6, 0), -1);
    }

    void p03_whatIs0To9() {
        ends(Scenes::rich, 0, 2, 9, 0, (x, v) -> x.figureOf(0, v));
    }

    void p03_askingChangesNothing() {
        for (int what = 0; what <= 9; what++) {
            int asked = what;
            changesNothing(Scenes::rich, x -> x.figureOf(1, asked));
        }
    }

    private void wearies(int sun, int bell, int... want) {
        NymphRota x = Scenes.kinds(0, 0);
        x.ends(16);
        Scenes.after(x, bell);
        x.weather(bell, 4 * sun + 3);
        for (int k = 0; k < 5; k++) {
            due("SUN " + sun + ", BELL " + bell + ", KIND " + (k + 1), x.figureOf(k, 5), want[k]);
        }
    }

    void p03_wearies3And4ForEachSun() {
        wearies(0, 0, 1, 3, 0, 6, 6);
        wearies(1, 0, 1, 7, 2, 14, 14);
        wearies(2, 0, 1, 11, 6, 22, 22);
        wearies(3, 0, 1, 15, 10, 30, 30);
    }

    void p03_aFourthOfBellIsCutTowards0() {
        wearies(3, 3, 1, 15, 10, 30, 0);
        wearies(3, 4, 1, 16, 11, 30, 30);
        wearies(3, 7, 1, 16, 11, 30, 0);
        wearies(3, 8, 1, 17, 12, 30, 30);
        wearies(3, 15, 1, 18, 13, 30, 0);
    }

    void p03_aMatronWearies0AtLeast() {
        wearies(0, 0, 1, 3, 0, 6, 6);
        wearies(0, 7, 1, 4, 0, 6, 0);
        wearies(0, 8, 1, 5, 0, 6, 6);
        wearies(0, 12, 1, 6, 1, 6, 6);
    }

    void p03_aDreamerWearies0InOddBells() {
        wearies(1, 1, 1, 7, 2, 14, 0);
        wearies(1, 2, 1, 7, 2, 14, 14);
    }

    void p03_behindBell15ThereIsNoWeather() {
        NymphRota x = Scenes.kinds(0, 9);
        x.ends(16);
        x.weather(15, 15);
        Scenes.after(x, 16);
        int[] wearies = {1, 7, 2, 6, 6};
        for (int k = 0; k < 5; k++) {
            x.change(k, 1, 0);
            due("SUN is 0", x.figureOf(k, 5), wearies[k]);
        }
        int[] shows = {0, 3, 2, 0, 4};
        for (int k = 0; k < 5; k++) {
            due("GUESTS are 0", x.figureOf(k, 6), shows[k]);
        }
    }

    private void shaded(int kind, int shade, int want) {
        NymphRota x = new NymphRota();
        x.figure(kind, 0, 0, 5);
        x.niche(5, 0, shade);
        x.niche(4, 0, 9);
        x.niche(0, 0, 9);
        due("KIND " + kind + " in SHADE " + shade, x.figureOf(0, 5), want);
    }

    void p03_shadeOfItsNicheIsTakenAnd0IsTheLeast() {
        shaded(1, 0, 1);
        shaded(1, 1, 0);
        shaded(1, 2, 0);
        shaded(2, 6, 1);
        shaded(2, 7, 0);
        shaded(2, 8, 0);
        shaded(3, 1, 1);
        shaded(3, 2, 0);
        shaded(3, 9, 0);
        shaded(4, 9, 5);
    }

    void p03_theMatrons5AreTakenAheadOfShade() {
        NymphRota x = Scenes.one(3, 0, 0);
        x.weather(0, 0);
        x.niche(0, 0, 0);
        due("3 less 5 is 0", x.figureOf(0, 5), 0);
        x.weather(0, 4);
        x.niche(0, 0, 1);
        due("7 less 5 less 1", x.figureOf(0, 5), 1);
    }

    void p03_wearyRelievedOrNot() {
        NymphRota x = Scenes.one(2, 0, 0);
        x.change(0, 4, 1);
        due("RELIEVED", x.figureOf(0, 5), 7);
        x.change(0, 4, 0);
        x.change(0, 1, 99);
        due("fainted", x.figureOf(0, 5), 7);
    }

    private void shows(int guests, int grace, int... want) {
        NymphRota x = Scenes.kinds(59, grace);
        x.weather(0, 12 + guests);
        for (int k = 0; k < 5; k++) {
            due("GUESTS " + guests + ", GRACE " + grace + ", KIND " + (k + 1), x.figureOf(k, 6), want[k]);
        }
    }

    void p03_aMarbleShows1AtMost() {
        shows(0, 0, 0, 0, 0, 0, 4);
        shows(1, 0, 1, 1, 0, 2, 6);
        shows(2, 0, 1, 2, 1, 4, 8);
        shows(3, 0, 1, 3, 2, 6, 10);
    }

    void p03_aThirdOfGraceIsCutTowards0() {
        shows(1, 2, 1, 1, 0, 2, 6);
        shows(1, 3, 1, 2, 1, 2, 6);
        shows(1, 5, 1, 2, 1, 2, 6);
        shows(1, 6, 1, 3, 2, 2, 6);
        shows(1, 8, 1, 3, 2, 2, 6);
        shows(1, 9, 1, 4, 3, 2, 6);
    }

    void p03_aMatronShows0AtLeast() {
        shows(0, 2, 0, 0, 0, 0, 4);
        shows(0, 3, 0, 1, 0, 0, 4);
        shows(0, 6, 0, 2, 1, 0, 4);
    }

    void p03_aDreamerShowsItsNumberToo() {
        NymphRota x = Scenes.bare();
        for (int k = 0; k < 6; k++) {
            x.figure(5, 0, 0, 0);
            due("number " + k, x.figureOf(k, 6), 2 + k);
        }
    }

    void p03_upIsBelow60() {
        NymphRota x = Scenes.one(2, 59, 0);
        due("59 SHOWS", x.figureOf(0, 6), 1);
        due("59 PAYS", x.figureOf(0, 7), 3);
        due("59 MAY", x.figureOf(0, 8), 1);
        x.change(0, 1, 60);
        due("60 SHOWS", x.figureOf(0, 6), 0);
        due("60 PAYS", x.figureOf(0, 7), 0);
        due("60 MAY", x.figureOf(0, 8), 0);
        x.change(0, 1, 99);
        due("99 PAYS", x.figureOf(0, 7), 0);
    }

    void p03_upIsNotRelieved() {
        NymphRota x = Scenes.one(5, 0, 9);
        x.change(0, 4, 1);
        due("SHOWS", x.figureOf(0, 6), 0);
        due("PAYS", x.figureOf(0, 7), 0);
        due("MAY", x.figureOf(0, 8), 0);
    }

    private void pays(int tired, int grace, int want) {
        due("TIRED " + tired + ", GRACE " + grace, Scenes.one(1, tired, grace).figureOf(0, 7), want);
    }

    void p03_paysAnEighthOfTiredLessCutTowards0() {
        pays(0, 0, 10);
        pays(7, 0, 10);
        pays(8, 0, 9);
        pays(15, 0, 9);
        pays(16, 0, 8);
        pays(55, 0, 4);
        pays(56, 0, 3);
        pays(59, 9, 12);
        pays(0, 9, 19);
    }

    void p03_mayBeRelievedOnlyIfItsWillIsToRelieve() {
        due("relieve", Scenes.told("relieve", 1, 0, 0).figureOf(0, 8), 1);
        due("keep", Scenes.told("keep", 1, 0, 0).figureOf(0, 8), 0);
        due("smoke", Scenes.told("smoke", 1, 0, 0).figureOf(0, 8), 0);
    }

    void p03_willIsAskedOfThoseThatAreNotUpToo() {
        NymphRota x = Scenes.told("smoke", 1, 99, 0);
        due("fainted", x.figureOf(0, 9), 2);
        x.change(0, 4, 1);
        due("RELIEVED", x.figureOf(0, 9), 2);
    }

    // ---- promise 4

    void p04_figuresAreThoseThereAre() {
        ends(Scenes::rich, 0, 4, 4, 5, (x, v) -> x.change(v, 2, 1));
        refused(Scenes::bare, -1, x -> x.change(0, 1, 0));
    }

    void p04_whatIs1To4() {
        ends(Scenes::rich, 1, 10, 4, 0, (x, v) -> x.change(1, v, 1));
    }

    void p04_tiredIs0To99() {
        ends(Scenes::rich, 0, 10, 99, 10, (x, v) -> x.change(1, 1, v));
    }

    void p04_graceIs0To9() {
        ends(Scenes::rich, 0, 3, 9, 3, (x, v) -> x.change(1, 2, v));
    }

    void p04_nicheIs0To5() {
        ends(Scenes::rich, 0, 0, 5, 0, (x, v) -> x.change(1, 3, v));
    }

    void p04_relievedIs0Or1() {
        ends(Scenes::rich, 0, 0, 1, 0, (x, v) -> x.change(1, 4, v));
        ends(Scenes::rich, 0, 1, 1, 1, (x, v) -> x.change(0, 4, v));
    }

    void p04_itBecomesTheLeastAndTheMost() {
        int[] most = {0, 99, 9, 5, 1};
        for (int what = 1; what <= 4; what++) {
            NymphRota x = Scenes.rich();
            x.change(3, what, most[what]);
            due("the most", x.figureOf(3, what), most[what]);
            due("was the most", x.change(3, what, 0), most[what]);
            due("the least", x.figureOf(3, what), 0);
            due("was the least", x.change(3, what, 0), 0);
        }
    }

    void p04_onlyThatOneFigureIsRelieved() {
        NymphRota x = Scenes.six();
        x.change(5, 4, 1);
        due("0 and 5", x.state(4), 33);
        x.change(0, 4, 0);
        due("5", x.state(4), 32);
        due("not so anyway", x.change(0, 4, 0), 0);
        due("5", x.state(4), 32);
    }

    // ---- promise 5

    void p05_figuresAreThoseThereAre() {
        ends(Scenes::rich, 0, 2, 4, 3, (x, v) -> x.remake(v, 1));
        refused(Scenes::bare, -1, x -> x.remake(0, 1));
    }

    void p05_kindIs1To5() {
        ends(Scenes::rich, 1, 1, 5, 1, (x, v) -> x.remake(1, v));
    }

    void p05_toTheSameKindChangesNothing() {
        due("a marble", Scenes.rich().remake(1, 1), 1);
        changesNothing(Scenes::rich, x -> x.remake(1, 1));
    }

    void p05_allElseOfItStays() {
        NymphRota x = Scenes.rich();
        x.remake(0, 5);
        int[] want = {5, 18, 4, 1, 1};
        for (int what = 0; what <= 4; what++) {
            due("what " + what, x.figureOf(0, what), want[what]);
        }
    }

    // ---- promise 6

    void p06_bellIs0To15() {
        ends(Scenes::rich, 0, 5, 15, 5, (x, v) -> x.weather(v, 1));
    }

    void p06_weatherIs0To15() {
        ends(Scenes::rich, 0, 14, 15, 14, (x, v) -> x.weather(2, v));
    }

    void p06_sunIsAFourthGuestsAreWhatItLeaves() {
        NymphRota x = Scenes.one(4, 0, 0);
        for (int v = 0; v <= 15; v++) {
            x.weather(0, v);
            due("SUN of " + v, x.figureOf(0, 5), 6 + 8 * (v >> 2));
            due("GUESTS of " + v, x.figureOf(0, 6), 2 * (v & 3));
        }
    }

    void p06_aBellGoneByTakesItToo() {
        NymphRota x = Scenes.rich();
        due("BELL 0", x.weather(0, 9), 5);
        due("was 9", x.weather(0, 0), 9);
        due("BELL 2 is as it was", x.state(5), 14);
    }

    // ---- promise 7

    void p07_nicheIs0To5() {
        ends(Scenes::rich, 0, 2, 5, 1, (x, v) -> x.niche(v, 0, 3));
    }

    void p07_whatIs0Or1() {
        ends(Scenes::rich, 0, 0, 1, 6, (x, v) -> x.niche(4, v, 3));
    }

    void p07_shadeIs0To9() {
        ends(Scenes::rich, 0, 2, 9, 2, (x, v) -> x.niche(0, 0, v));
    }

    void p07_wetIs0To9() {
        ends(Scenes::rich, 0, 6, 9, 6, (x, v) -> x.niche(4, 1, v));
    }

    void p07_theOthersStay() {
        NymphRota x = Scenes.bare();
        x.niche(5, 0, 9);
        x.niche(0, 1, 8);
        for (int f = 0; f <= 5; f++) {
            due("SHADE of " + f, x.nicheOf(f, 0), f == 5 ? 9 : 0);
            due("WET of " + f, x.nicheOf(f, 1), f == 0 ? 8 : 0);
        }
    }

    // ---- promise 8

    void p08_nicheIs0To5() {
        ends(Scenes::rich, 0, 2, 5, 1, (x, v) -> x.nicheOf(v, 0));
    }

    void p08_whatIs0Or1() {
        ends(Scenes::rich, 0, 0, 1, 6, (x, v) -> x.nicheOf(4, v));
    }

    void p08_theLeastAndTheMost() {
        NymphRota x = Scenes.bare();
        for (int what = 0; what <= 1; what++) {
            x.niche(3, what, 9);
            due("9", x.nicheOf(3, what), 9);
            x.niche(3, what, 0);
            due("0", x.nicheOf(3, what), 0);
        }
    }

    void p08_askingChangesNothing() {
        changesNothing(Scenes::rich, x -> x.nicheOf(0, 0), x -> x.nicheOf(4, 1));
    }

    // ---- promise 9

    void p09_endIs1To16() {
        ends(Scenes::bare, 1, 12, 16, 12, NymphRota::ends);
        ends(Scenes::bare, 1, 1, 16, 16, (x, v) -> x.ends(v) < 0 ? -1 : x.state(1));
    }

    void p09_belowBellIsState() {
        refused(Scenes::rich, -4, x -> x.ends(1));
        refused(Scenes::over, -4, x -> x.ends(1));
        refused(() -> Scenes.after(Scenes.rich(), 6), -4, x -> x.ends(1), x -> x.ends(7));
    }

    void p09_bellItselfIsTakenAndThenItIsOver() {
        NymphRota x = Scenes.rich();
        due("was", x.ends(2), 8);
        due("OVER", x.state(3), 1);
    }

    void p09_oneMoreThanBellIsNotOver() {
        NymphRota x = Scenes.rich();
        due("was", x.ends(3), 8);
        due("not OVER", x.state(3), 0);
    }

    void p09_badIsNamedAheadOfState() {
        refused(Scenes::rich, -1, x -> x.ends(0), x -> x.ends(-1), x -> x.ends(Integer.MIN_VALUE));
    }

    void p09_whatWasOverGoesOn() {
        NymphRota x = Scenes.over();
        due("was", x.ends(16), 2);
        due("not OVER", x.state(3), 0);
        due("a BELL goes by", x.bell() >= 0 ? x.state(0) : -1, 3);
    }

    // ---- promise 10

    void p10_answersBellAlsoWhenOver() {
        due("at BELL 0", Scenes.bare().anew(), 0);
        due("at BELL 2", Scenes.rich().anew(), 2);
        due("OVER", Scenes.over().anew(), 2);
        NymphRota x = Scenes.bare();
        x.ends(16);
        due("the most", Scenes.after(x, 16).anew(), 16);
    }

    void p10_bellAndScoreAre0NobodyIsRelievedTiredIs0() {
        NymphRota x = Scenes.six();
        x.change(5, 4, 1);
        x.change(4, 1, 99);
        x.anew();
        due("BELL", x.state(0), 0);
        due("SCORE", x.state(2), 0);
        due("RELIEVED", x.state(4), 0);
        due("UP", x.state(6), 63);
        for (int k = 0; k < 6; k++) {
            due("TIRED of " + k, x.figureOf(k, 1), 0);
        }
    }

    void p10_allElseStays() {
        NymphRota x = Scenes.rich();
        x.anew();
        due("END", x.state(1), 8);
        due("WEATHER", x.weather(2, 0), 14);
        due("SHADE", x.nicheOf(0, 0), 2);
        due("WET", x.nicheOf(4, 1), 6);
        due("KIND", x.figureOf(1, 0), 1);
        due("GRACE", x.figureOf(1, 2), 3);
        due("NICHE", x.figureOf(2, 3), 2);
        due("RULES", x.many(1), 2);
        due("REPORTS", x.many(3), 2);
        due("ROWS", x.many(4), 3);
        due("THE TAPE", x.many(5), 13);
        due("z", x.seed(0), -77);
        due("kept", x.again(), 1);
        due("its BELL", x.state(0), 1);
    }

    void p10_whatWasOverIsNot() {
        NymphRota x = Scenes.over();
        x.anew();
        due("END 2", x.state(3), 0);
    }

    // ---- promise 11

    void p11_whatIs0To6() {
        ends(Scenes::rich, 0, 2, 6, 30, NymphRota::state);
    }

    void p11_ofANewObject() {
        int[] want = {0, 12, 0, 0, 0, 5, 0};
        for (int what = 0; what <= 6; what++) {
            due("state(" + what + ")", Scenes.bare().state(what), want[what]);
        }
    }

    void p11_ofOneThatIsInUse() {
        int[] want = {2, 8, 23, 0, 1, 14, 30};
        for (int what = 0; what <= 6; what++) {
            int asked = what;
            due("state(" + what + ")", Scenes.rich().state(what), want[what]);
            changesNothing(Scenes::rich, x -> x.state(asked));
        }
    }

    void p11_overFromEndOn() {
        NymphRota x = Scenes.after(Scenes.bare(), 11);
        due("BELL 11 of 12", x.state(3), 0);
        x.bell();
        due("BELL 12 of 12", x.state(3), 1);
    }

    void p11_weatherOfBell15AndOfNoneBehindIt() {
        NymphRota x = Scenes.bare();
        x.ends(16);
        x.weather(15, 13);
        Scenes.after(x, 15);
        due("BELL 15", x.state(5), 13);
        x.bell();
        due("BELL 16", x.state(5), 0);
        due("it is", x.state(0), 16);
    }

    void p11_setsAreToldByBits() {
        NymphRota x = Scenes.six();
        due("UP", x.state(6), 62);
        x.change(0, 4, 0);
        due("all UP", x.state(6), 63);
        due("none RELIEVED", x.state(4), 0);
        for (int k = 0; k < 6; k++) {
            x.change(k, 4, 1);
        }
        due("none UP", x.state(6), 0);
        due("all RELIEVED", x.state(4), 63);
    }

    void p11_upIsBelow60() {
        NymphRota x = Scenes.one(1, 59, 0);
        due("59", x.state(6), 1);
        x.change(0, 1, 60);
        due("60", x.state(6), 0);
    }
}
