/** Promises 41 to 50. */
final class HostEdges extends Edges {
    private static final int MOST = Integer.MAX_VALUE;
    private static final int LEAST = Integer.MIN_VALUE;

    /** As rich, with SHEET 3 as a row of n of a sort. */
    private static Make sheet(int sort, int n) {
        return () -> {
            NymphRota x = Scenes.rich();
            x.sheet(3, sort, n);
            return x;
        };
    }

    /** As rich, with bytes on SHEET 3. */
    private static Make bytes(int... bytes) {
        return () -> {
            NymphRota x = Scenes.rich();
            Check.acts(x, 3, bytes);
            return x;
        };
    }

    // ---- promise 41

    void p41_sheetIs0To3() {
        ends(Scenes::rich, 0, 1, 3, 1, (x, v) -> x.sheet(v, 0, 1));
        ends(Scenes::rich, 0, 1, 3, 1, (x, v) -> x.sheet(v, -1, 1));
    }

    void p41_sortIsMinus1To4() {
        ends(Scenes::rich, -1, 1, 4, 1, (x, v) -> x.sheet(0, v, 1));
    }

    void p41_nIs40AtMost() {
        for (int sort = 0; sort <= 4; sort++) {
            int as = sort;
            due("40", Scenes.rich().sheet(0, as, 40), 1);
            refused(Scenes::rich, -1, x -> x.sheet(0, as, 41), x -> x.sheet(0, as, MOST));
        }
    }

    void p41_aSizeBelow0IsMinus14() {
        for (int sort = 0; sort <= 4; sort++) {
            int as = sort;
            due("0", Scenes.rich().sheet(0, as, 0), 1);
            refused(Scenes::rich, -14, x -> x.sheet(0, as, -1), x -> x.sheet(0, as, LEAST));
        }
    }

    void p41_badIsNamedAheadOfMinus14() {
        refused(Scenes::rich, -1, x -> x.sheet(4, 0, -1), x -> x.sheet(-1, 0, -1), x -> x.sheet(0, 5, -1),
                x -> x.sheet(0, -2, -1));
    }

    void p41_missingIfSortIsMinus1WhateverN() {
        for (int n : new int[] {LEAST, -1, 0, 40, 41, MOST}) {
            NymphRota x = Scenes.rich();
            due("n " + n, x.sheet(0, -1, n), 1);
            due("missing", x.item(0, 0, 0), -11);
            due("missing", x.write(0, 0, 0), -11);
        }
    }

    void p41_aRowOf40IsAll0() {
        for (int sort = 0; sort <= 4; sort++) {
            NymphRota x = Scenes.bare();
            x.sheet(2, sort, 40);
            for (int i = 0; i < 40; i++) {
                due("item " + i, x.item(2, sort, i), 0);
                x.write(2, i, -1);
            }
            due("no 41st", x.item(2, sort, 40), -12);
            x.sheet(2, sort, 40);
            for (int i = 0; i < 40; i++) {
                due("0 again " + i, x.item(2, sort, i), 0);
            }
        }
    }

    void p41_aRowOf0HasNoItems() {
        for (int sort = 0; sort <= 4; sort++) {
            NymphRota x = Scenes.bare();
            x.sheet(2, sort, 0);
            due("item 0", x.item(2, sort, 0), -12);
            due("to write", x.write(2, 0, 1), -12);
        }
    }

    void p41_theOtherSheetsStay() {
        NymphRota x = Scenes.rich();
        x.sheet(3, 3, 40);
        x.sheet(1, -1, 0);
        due("SHEET 0", x.item(0, 0, 2), 99);
        due("SHEET 2", x.item(2, 4, 0), 1);
    }

    // ---- promise 42

    void p42_sheetIs0To3() {
        ends(Scenes::rich, 0, 1, 3, -11, (x, v) -> x.write(v, 0, 1));
    }

    void p42_aPlaceOutsideIsMinus12() {
        for (int sort = 0; sort <= 4; sort++) {
            ends(sheet(sort, 40), 0, 1, 39, 1, -12, (x, v) -> x.write(3, v, 1));
            refused(sheet(sort, 0), -12, x -> x.write(3, 0, 1), x -> x.write(3, -1, 1));
        }
    }

    void p42_missingIsMinus11() {
        refused(Scenes::rich, -11, x -> x.write(3, 0, 1), x -> x.write(3, -1, 1), x -> x.write(3, 40, 1));
    }

    void p42_badIsNamedAheadOfTheOthers() {
        refused(Scenes::rich, -1, x -> x.write(4, 0, 1), x -> x.write(4, 99, 1), x -> x.write(-1, -1, 1));
    }

    private void narrowed(int sort, int... pairs) {
        for (int i = 0; i < pairs.length; i += 2) {
            NymphRota x = Scenes.bare();
            x.sheet(1, sort, 2);
            due("written", x.write(1, 1, pairs[i]), 1);
            due("sort " + sort + " of " + pairs[i], x.item(1, sort, 1), pairs[i + 1]);
            due("the other one", x.item(1, sort, 0), 0);
        }
    }

    void p42_bytesWrapAround() {
        narrowed(0, 127, 127, 128, -128, -128, -128, -129, 127, 255, -1, 256, 0, MOST, -1, LEAST, 0);
    }

    void p42_shortsWrapAround() {
        narrowed(1, 32767, 32767, 32768, -32768, -32768, -32768, -32769, 32767, 65535, -1, 65536, 0, MOST, -1, LEAST, 0);
    }

    void p42_intsAndLongsHoldEach() {
        narrowed(2, MOST, MOST, LEAST, LEAST, -1, -1, 0, 0);
        narrowed(3, MOST, MOST, LEAST, LEAST, -1, -1, 0, 0);
    }

    void p42_booleansAreWhetherItIsNot0() {
        narrowed(4, 0, 0, 1, 1, -1, 1, 2, 1, 256, 1, 65536, 1, MOST, 1, LEAST, 1);
    }

    void p42_backTo0() {
        for (int sort = 0; sort <= 4; sort++) {
            NymphRota x = Scenes.bare();
            x.sheet(1, sort, 1);
            x.write(1, 0, 1);
            due("1", x.item(1, sort, 0), 1);
            x.write(1, 0, 0);
            due("0", x.item(1, sort, 0), 0);
        }
    }

    // ---- promise 43

    void p43_sheetIs0To3() {
        ends(Scenes::rich, 0, 0, 3, -11, (x, v) -> x.item(v, 0, 0));
    }

    void p43_sortIs0To4() {
        ends(sheet(0, 1), 0, 0, 4, -13, (x, v) -> x.item(3, v, 0));
        refused(Scenes::rich, -1, x -> x.item(3, -1, 0), x -> x.item(3, 5, 0));
    }

    void p43_anotherSortIsMinus13() {
        for (int sort = 0; sort <= 4; sort++) {
            for (int other = 0; other <= 4; other++) {
                int as = other;
                if (sort != other) {
                    refused(sheet(sort, 1), -13, x -> x.item(3, as, 0), x -> x.item(3, as, 1), x -> x.item(3, as, -1));
                }
            }
        }
    }

    void p43_missingIsMinus11() {
        for (int sort = 0; sort <= 4; sort++) {
            int as = sort;
            refused(Scenes::rich, -11, x -> x.item(3, as, 0), x -> x.item(3, as, -1));
        }
    }

    void p43_aPlaceOutsideIsMinus12() {
        for (int sort = 0; sort <= 4; sort++) {
            int as = sort;
            ends(sheet(sort, 40), 0, 0, 39, 0, -12, (x, v) -> x.item(3, as, v));
            refused(sheet(sort, 0), -12, x -> x.item(3, as, 0));
        }
    }

    void p43_badIsNamedAheadOfTheOthers() {
        refused(Scenes::rich, -1, x -> x.item(4, 0, 99), x -> x.item(0, 5, 99), x -> x.item(-1, -1, -1));
    }

    void p43_anItemMayBeAsLowAsTheRefusals() {
        for (int v : new int[] {-1, -11, -12, -13}) {
            narrowed(0, v, v);
            narrowed(1, v, v);
            narrowed(2, v, v);
            narrowed(3, v, v);
        }
    }

    void p43_askingChangesNothing() {
        changesNothing(Scenes::rich, x -> x.item(0, 0, 2), x -> x.item(1, 2, 0), x -> x.item(2, 4, 0));
    }

    // ---- promise 44

    void p44_sheetIs0To3() {
        ends(Scenes::rich, 0, 0, 3, -11, (x, v) -> x.goAll(v, 0, 0));
    }

    void p44_nIs0To20() {
        ends(() -> {
            NymphRota x = Scenes.bare();
            x.sheet(0, 0, 40);
            return x;
        }, 0, 0, 20, 0, (x, v) -> x.goAll(0, 5, v));
        refused(Scenes::rich, -1, x -> x.goAll(0, 0, -1), x -> x.goAll(0, 0, 21), x -> x.goAll(1, 0, 21), x -> x.goAll(3, 0, 21));
    }

    void p44_anotherSortIsMinus13() {
        for (int sort = 1; sort <= 4; sort++) {
            refused(sheet(sort, 1), -13, x -> x.goAll(3, 0, 1), x -> x.goAll(3, 0, 0), x -> x.goAll(3, 9, 1));
        }
    }

    void p44_missingIsMinus11() {
        refused(Scenes::rich, -11, x -> x.goAll(3, 0, 0), x -> x.goAll(3, 0, 1), x -> x.goAll(3, -1, 20));
    }

    void p44_outsideFromTheFirstOnIsMinus12() {
        refused(Scenes::rich, -12, x -> x.goAll(0, -1, 1), x -> x.goAll(0, -1, 20), x -> x.goAll(0, 3, 1),
                x -> x.goAll(0, MOST, 1), x -> x.goAll(0, MOST, 20), x -> x.goAll(0, LEAST, 1), x -> x.goAll(0, LEAST, 20));
        refused(sheet(0, 0), -12, x -> x.goAll(3, 0, 1));
    }

    void p44_noItemsAreWorth0FromAnywhere() {
        for (int i : new int[] {LEAST, -1, 0, 3, MOST}) {
            due("from " + i, Scenes.rich().goAll(0, i, 0), 0);
            changesNothing(Scenes::rich, x -> x.goAll(0, i, 0));
        }
    }

    void p44_outsideLaterAndWhatStoodAheadWasDone() {
        NymphRota x = Scenes.rich();
        due("0, 2, 99 and one outside", x.goAll(0, 0, 4), -12);
        NymphRota y = Scenes.rich();
        int worth = y.goAll(0, 0, 3);
        due("BELL", x.state(0), 4);
        due("SCORE", x.state(2), 23 + worth);
        alike("as without the one outside", x, y);
    }

    void p44_theLastItem() {
        NymphRota x = bytes(9, 9, 0).make();
        due("goes by", x.goAll(3, 2, 1) >= 0 ? x.state(0) : -1, 3);
    }

    void p44_whatIsNoActIsLeftOut() {
        changesNothing(bytes(6, 7, 127, -1, -128), x -> x.goAll(3, 0, 5));
        due("0", bytes(6, 7, 127, -1, -128).make().goAll(3, 0, 5), 0);
        NymphRota x = bytes(6, 5, -1, 0).make();
        x.goAll(3, 0, 4);
        due("5 and 0 are ACTS of five", x.state(0), 4);
        NymphRota six = bytes(6, 7).make();
        six.figure(1, 60, 0, 0);
        six.goAll(3, 0, 2);
        due("6 is one of six", six.state(0), 3);
    }

    void p44_leftOutWhenItIsOver() {
        NymphRota x = sheet(0, 20).make();
        int worth = x.goAll(3, 0, 20);
        due("SCORE", x.state(2), 23 + worth);
        due("END", x.state(0), 8);
        due("all left out", x.goAll(3, 0, 20), 0);
        due("outside, when OVER", x.goAll(3, 19, 2), -12);
        due("outside, when OVER", x.goAll(3, 20, 1), -12);
        changesNothing(Scenes::over, y -> y.goAll(0, 0, 3), y -> y.goAll(0, 0, 4));
    }

    void p44_sixteenBellsOfTwentyItems() {
        NymphRota x = Scenes.told("keep", 1, 0, 0);
        x.ends(16);
        x.sheet(0, 0, 40);
        due("16", x.goAll(0, 20, 20), 16);
        due("BELL", x.state(0), 16);
    }

    // ---- promise 45

    void p45_sheetIs0To3() {
        ends(Scenes::rich, 0, 0, 3, -11, (x, v) -> x.wouldBe(v, 0, 0));
    }

    void p45_nIs0To20() {
        ends(() -> {
            NymphRota x = Scenes.bare();
            x.sheet(0, 0, 40);
            return x;
        }, 0, 0, 20, -4, (x, v) -> x.wouldBe(0, 5, v));
        refused(Scenes::rich, -1, x -> x.wouldBe(0, 0, -1), x -> x.wouldBe(0, 0, 21), x -> x.wouldBe(1, 0, 21),
                x -> x.wouldBe(3, 0, 21));
    }

    void p45_anotherSortIsMinus13() {
        for (int sort = 1; sort <= 4; sort++) {
            refused(sheet(sort, 1), -13, x -> x.wouldBe(3, 0, 1), x -> x.wouldBe(3, 0, 0), x -> x.wouldBe(3, 9, 1));
        }
    }

    void p45_missingIsMinus11() {
        refused(Scenes::rich, -11, x -> x.wouldBe(3, 0, 0), x -> x.wouldBe(3, -1, 20));
    }

    void p45_aPlaceOutsideIsMinus12() {
        refused(Scenes::rich, -12, x -> x.wouldBe(0, -1, 1), x -> x.wouldBe(0, -1, 20), x -> x.wouldBe(0, 3, 1),
                x -> x.wouldBe(0, MOST, 20), x -> x.wouldBe(0, LEAST, 20));
        refused(bytes(0, 1), -12, x -> x.wouldBe(3, 0, 3), x -> x.wouldBe(3, 1, 2));
        refused(Scenes::over, -12, x -> x.wouldBe(0, 3, 1), x -> x.wouldBe(0, -1, 1));
    }

    void p45_oneThatIsNoActIsState() {
        refused(bytes(6, 0, -1, 127, -128), -4, x -> x.wouldBe(3, 0, 1), x -> x.wouldBe(3, 0, 5), x -> x.wouldBe(3, 1, 2),
                x -> x.wouldBe(3, 3, 1), x -> x.wouldBe(3, 4, 1));
        due("5 is one of five", bytes(5).make().wouldBe(3, 0, 1) >= 0 ? 1 : 0, 1);
        NymphRota six = bytes(6).make();
        six.figure(1, 60, 0, 0);
        due("6 is one of six", six.wouldBe(3, 0, 1) >= 0 ? 1 : 0, 1);
    }

    void p45_byItemsTheFirstRefusalCounts() {
        refused(bytes(0, 77), -4, x -> x.wouldBe(3, 0, 3), x -> x.wouldBe(3, 1, 20));
        refused(bytes(0, 0), -12, x -> x.wouldBe(3, 1, 20));
        refused(sheet(0, 40), -12, x -> x.wouldBe(3, 34, 7));
    }

    void p45_overAheadOfItIsState() {
        due("six BELLS yet", sheet(0, 40).make().wouldBe(3, 0, 6) >= 0 ? 1 : 0, 1);
        refused(sheet(0, 40), -4, x -> x.wouldBe(3, 0, 7), x -> x.wouldBe(3, 33, 7), x -> x.wouldBe(3, 0, 20));
        refused(Scenes::over, -4, x -> x.wouldBe(0, 0, 1), x -> x.wouldBe(0, 2, 1));
    }

    void p45_noItemsAreWorth0FromAnywhere() {
        for (int i : new int[] {LEAST, -1, 0, 3, MOST}) {
            due("from " + i, Scenes.rich().wouldBe(0, i, 0), 0);
            due("OVER, from " + i, Scenes.over().wouldBe(0, i, 0), 0);
        }
    }

    void p45_asGoAllWouldBe() {
        for (int n = 0; n <= 6; n++) {
            NymphRota x = bytes(2, 5, 3, 0, 4, 4).make();
            int worth = x.wouldBe(3, 0, n);
            due("of " + n, x.goAll(3, 0, n), worth);
        }
    }

    void p45_askingChangesNothing() {
        changesNothing(bytes(2, 5, 3, 0, 4, 4), x -> x.wouldBe(3, 0, 6), x -> x.wouldBe(3, 0, 0));
    }

    // ---- promise 46

    void p46_shelfIs0To3() {
        ends(Scenes::rich, 0, 1, 3, 1, (x, v) -> x.shelf(v, 0, 0));
        ends(Scenes::rich, 0, 1, 3, 1, (x, v) -> x.shelf(v, 2, 0));
    }

    void p46_whatIs0To2() {
        ends(Scenes::rich, 0, 1, 2, 1, (x, v) -> x.shelf(0, v, 0));
    }

    void p46_figuresAreThoseThereAre() {
        ends(Scenes::rich, 0, 1, 4, 1, (x, v) -> x.shelf(0, 0, v));
        refused(Scenes::bare, -1, x -> x.shelf(0, 0, 0));
        due("the sixth", Scenes.six().shelf(0, 0, 5), 1);
        refused(Scenes::six, -1, x -> x.shelf(0, 0, 6));
    }

    void p46_sheetsAre0To3() {
        ends(Scenes::rich, 0, 1, 3, 1, (x, v) -> x.shelf(0, 1, v));
    }

    void p46_nothingWhateverN() {
        for (int n : new int[] {LEAST, -1, 0, 6, MOST}) {
            NymphRota x = Scenes.rich();
            due("n " + n, x.shelf(0, 2, n), 1);
            due("nothing", x.taken(0, 0), -11);
        }
    }

    void p46_theRowOfAMissingSheetIsNothing() {
        NymphRota x = Scenes.rich();
        due("taken in place of a FIGURE", x.shelf(0, 1, 3), 1);
        due("nothing", x.taken(0, 0), -11);
        due("taken in place of a row", x.shelf(1, 1, 3), 1);
        due("nothing", x.taken(1, 12), -11);
    }

    void p46_oneInPlaceOfTheOther() {
        NymphRota x = Scenes.rich();
        x.shelf(0, 1, 0);
        due("a row", x.taken(0, 10), 3);
        due("no FIGURE", x.taken(0, 0), -13);
        x.shelf(0, 0, 3);
        due("a FIGURE", x.taken(0, 0), 3);
        due("no row", x.taken(0, 10), -13);
        due("SHELF 1 stays", x.taken(1, 12), 2);
        due("SHELF 2 stays", x.taken(2, 0), 4);
        due("SHELF 3 stays", x.taken(3, 0), -11);
    }

    /** A row that a SHELF holds is that row yet when its SHEET becomes another one, or missing. */
    void p46_theRowStaysAsItWasTaken() {
        NymphRota x = Scenes.rich();
        x.sheet(1, 0, 40);
        due("two ints", x.taken(1, 12), 2);
        x.sheet(1, -1, 0);
        due("two ints", x.taken(1, 12), 2);
        x.shelf(1, 1, 1);
        due("missing", x.taken(1, 12), -11);
    }

    // ---- promise 47

    void p47_shelfIs0To3() {
        ends(Scenes::rich, 0, 1, 3, -11, (x, v) -> x.taken(v, 0));
    }

    void p47_asIs0To5Or10To14() {
        refused(Scenes::rich, -1, x -> x.taken(0, -1), x -> x.taken(0, 6), x -> x.taken(0, 7), x -> x.taken(0, 8),
                x -> x.taken(0, 9), x -> x.taken(0, 15), x -> x.taken(0, LEAST), x -> x.taken(0, MOST));
        refused(Scenes::rich, -1, x -> x.taken(3, -1), x -> x.taken(3, 6), x -> x.taken(3, 9), x -> x.taken(3, 15));
        int[] all = {0, 1, 2, 3, 4, 5, 10, 11, 12, 13, 14};
        for (int as : all) {
            due("nothing as " + as, Scenes.rich().taken(3, as), -11);
        }
    }

    void p47_nothingIsMinus11() {
        refused(Scenes::rich, -11, x -> x.taken(3, 0), x -> x.taken(3, 5), x -> x.taken(3, 10), x -> x.taken(3, 14));
    }

    private void kinds(int kind, int... want) {
        for (int as = 0; as <= 5; as++) {
            NymphRota x = Scenes.kinds(0, 0);
            x.remake(4, kind);
            x.shelf(2, 0, 4);
            due("KIND " + kind + " as " + as, x.taken(2, as), want[as] == 1 ? 4 : -13);
        }
    }

    void p47_aKindOrOneUnderIt() {
        kinds(1, 1, 1, 0, 0, 0, 0);
        kinds(2, 1, 0, 1, 0, 0, 0);
        kinds(3, 1, 0, 1, 1, 0, 0);
        kinds(4, 1, 0, 0, 0, 1, 0);
        kinds(5, 1, 0, 0, 0, 1, 1);
    }

    void p47_anotherKindOrSortIsMinus13() {
        refused(Scenes::rich, -13, x -> x.taken(0, 2), x -> x.taken(0, 10), x -> x.taken(1, 0), x -> x.taken(1, 10),
                x -> x.taken(1, 13));
    }

    void p47_aRowOf0To40() {
        for (int sort = 0; sort <= 4; sort++) {
            for (int n : new int[] {0, 1, 40}) {
                NymphRota x = sheet(sort, n).make();
                x.shelf(3, 1, 3);
                for (int as = 0; as <= 4; as++) {
                    due("sort " + sort + " as " + as, x.taken(3, 10 + as), as == sort ? n : -13);
                }
                due("no FIGURE", x.taken(3, 0), -13);
            }
        }
    }

    void p47_nothingIfThereIsNoSuchFigureAtTheTime() {
        NymphRota x = Scenes.rich();
        x.again();
        due("FIGURE 1 is gone", x.taken(0, 0), -11);
        due("FIGURE 4 is gone", x.taken(2, 10), -11);
        x.figure(1, 0, 0, 0);
        due("another FIGURE 1", x.taken(0, 1), 1);
        due("no FIGURE 4 yet", x.taken(2, 0), -11);
    }

    void p47_askingChangesNothing() {
        changesNothing(Scenes::rich, x -> x.taken(0, 0), x -> x.taken(1, 12), x -> x.taken(3, 10));
    }

    // ---- promise 48

    private void noTrace(String what, Make scene, Ask call) {
        NymphRota x = scene.make();
        due(what, call.of(x), 0);
        due("no TRACE", x.many(6), 0);
        due("no TRACE", x.trace(0), -3);
    }

    void p48_noSuchShelfIs0AndNoTrace() {
        for (int shelf : new int[] {LEAST, -1, 4, MOST}) {
            noTrace("SHELF " + shelf, Scenes::rich, x -> x.act(shelf, 0, 1));
        }
    }

    void p48_noSuchActIs0AndNoTrace() {
        for (int act : new int[] {LEAST, -1, 4, MOST}) {
            noTrace("ACT " + act, Scenes::rich, x -> x.act(0, act, 1));
        }
    }

    void p48_nothingOrARowIs0AndNoTrace() {
        for (int act = 0; act <= 3; act++) {
            int asked = act;
            noTrace("nothing", Scenes::rich, x -> x.act(3, asked, 1));
            noTrace("a row", Scenes::rich, x -> x.act(1, asked, 1));
        }
    }

    void p48_aFigureThatIsNoLongerThereIs0AndNoTrace() {
        noTrace("FIGURE 4", Scenes::rich, x -> {
            x.again();
            return x.act(2, 0, 1);
        });
    }

    /** The number of the FIGURE is 0 in NICHE a, and its KIND as told. */
    private static int act(int kind, int a, int act, int x) {
        NymphRota rota = Scenes.bare();
        rota.figure(kind, 0, 0, a);
        rota.shelf(3, 0, 0);
        return rota.act(3, act, x);
    }

    void p48_actsAre0To3OfShelves0To3() {
        for (int shelf = 0; shelf <= 3; shelf++) {
            NymphRota x = Scenes.one(4, 0, 0);
            x.shelf(shelf, 0, 0);
            int[] want = {21, 21, 1, 20};
            for (int act = 0; act <= 3; act++) {
                due("ACT " + act, x.act(shelf, act, 7), want[act]);
            }
        }
    }

    private void acts(int kind, int a, int... want) {
        for (int act = 0; act <= 3; act++) {
            due("KIND " + kind + " in NICHE " + a + ", ACT " + act, act(kind, a, act, 5), want[act]);
        }
    }

    void p48_eachKindByItsBodies() {
        acts(1, 0, 8, 8, 1, 7);
        acts(1, 2, 8, 4, 5, -1);
        acts(2, 0, 15, 45, 1, 44);
        acts(2, 2, 15, 33, 5, 28);
        acts(3, 0, 39, 117, 1, 188);
        acts(3, 2, 39, 105, 5, 178);
        acts(4, 0, 15, 15, 0, 15);
        acts(4, 2, 15, 11, 4, 7);
        acts(5, 0, 15, -15, 0, -15);
        acts(5, 2, 15, -11, 4, -15);
    }

    void p48_theNumberOfTheFigureIsN() {
        NymphRota x = Scenes.bare();
        for (int k = 0; k < 6; k++) {
            x.figure(5, 0, 0, 0);
            x.shelf(0, 0, k);
            due("poses of " + k, x.act(0, 0, 5), 15 + k);
            due("glances of " + k, x.act(0, 2, 5), 5 / (k + 3) - 1 ^ 4 * k);
        }
    }

    void p48_intsWrapAround() {
        due("3 times the most", act(4, 0, 0, MOST), 2147483645);
        due("3 times the least", act(4, 0, 0, LEAST), LEAST);
        due("8 more than the most", act(3, 0, 0, MOST), -2147483627);
        due("and 3 times that", act(2, 0, 1, MOST), 2147483639);
        due("0 less the least", act(5, 0, 1, LEAST), LEAST);
        due("less 4 and 10", act(4, 5, 1, LEAST), 2147483638);
        due("less a quotient", act(4, 0, 3, LEAST), LEAST + 715827882 + 1);
    }

    void p48_quotientsAreCutTowards0() {
        int[] by3 = {-1, -1, 0, 0, 0, 0, 0, 1, 1};
        for (int x = -4; x <= 4; x++) {
            due(x + " by 3", act(1, 0, 2, x), by3[x + 4]);
        }
        int[] byMinus2 = {1, 1, 0, 0, 0, -1, -1};
        for (int x = -3; x <= 3; x++) {
            due(x + " by -2", act(1, 5, 2, x), byMinus2[x + 3]);
        }
        due("the least by -1 wraps", act(1, 4, 2, LEAST), LEAST);
        due("the most by -1", act(1, 4, 2, MOST), -MOST);
    }

    void p48_partedBy0IsMinus15() {
        for (int n = 0; n < 6; n++) {
            for (int a = 0; a <= 5; a++) {
                NymphRota x = Scenes.bare();
                for (int k = 0; k < 6; k++) {
                    x.figure(1, 0, 0, a);
                }
                x.shelf(0, 0, n);
                boolean parted = n - a + 3 == 0;
                int drips = 600 + n ^ 7;
                due("glances " + n + " in " + a, x.act(0, 2, 200), parted ? -15 : 200 / (n - a + 3));
                due("leaves " + n + " in " + a, x.act(0, 3, 200), parted ? -15 : drips - 2 * a - 200 / (n - a + 3));
            }
        }
    }

    void p48_partedBy0IsAllThatActAnswers() {
        for (int kind = 1; kind <= 5; kind++) {
            for (int x = -1; x <= 1; x++) {
                due("glances", act(kind, 3, 2, x), -15);
                due("leaves", act(kind, 3, 3, x), -15);
            }
            due("poses is not parted", act(kind, 3, 0, 4) == -15 ? 1 : 0, 0);
            due("nor drips", act(kind, 3, 1, 4) == -15 ? 1 : 0, 0);
        }
    }

    void p48_nothingButTheTraceChanges() {
        changesNothing(Scenes::rich, x -> x.act(0, 3, 7));
    }

    void p48_whoIsNotUpActsToo() {
        NymphRota x = Scenes.one(4, 99, 0);
        x.shelf(0, 0, 0);
        due("fainted", x.act(0, 0, 5), 15);
        x.change(0, 4, 1);
        due("RELIEVED", x.act(0, 0, 5), 15);
    }

    void p48_byKindAndNicheAtTheTime() {
        NymphRota x = Scenes.one(4, 0, 0);
        x.shelf(0, 0, 0);
        x.change(0, 3, 2);
        due("15 less 4", x.act(0, 1, 5), 11);
        x.remake(0, 2);
        due("3 times that", x.act(0, 1, 5), 33);
    }

    // ---- promise 49

    private void traced(int kind, int a, int act, int... want) {
        NymphRota x = Scenes.bare();
        x.figure(kind, 0, 0, a);
        x.shelf(0, 0, 0);
        x.act(0, 3, 1);
        x.act(0, act, 1);
        due("bodies of KIND " + kind, x.many(6), want.length);
        for (int i = 0; i < want.length; i++) {
            due("body " + i, x.trace(i), want[i]);
        }
        for (int i : new int[] {LEAST, -1, want.length, 29, 30, 31, MOST}) {
            due("no body " + i, x.trace(i), -3);
        }
    }

    void p49_noneAtFirst() {
        refused(Scenes::bare, -3, x -> x.trace(0), x -> x.trace(-1), x -> x.trace(29), x -> x.trace(30));
    }

    void p49_bodiesAreThoseThereAre() {
        ends(Scenes::rich, 0, 13, 4, 12, -3, NymphRota::trace);
    }

    void p49_askingChangesNothing() {
        changesNothing(Scenes::rich, x -> x.trace(0), x -> x.trace(4), x -> x.trace(5));
    }

    void p49_ofTheLatestAct() {
        traced(1, 0, 0, 20, 10);
        traced(2, 0, 0, 10);
        traced(3, 0, 0, 50, 10);
        traced(4, 0, 0, 10);
        traced(5, 0, 0, 10);
        traced(1, 0, 2, 12);
        traced(2, 0, 2, 12);
        traced(3, 0, 2, 12);
        traced(4, 0, 2, 40, 12);
    }

    void p49_asTheyBeganLeftFirst() {
        traced(1, 0, 1, 11, 20, 10);
        traced(2, 0, 1, 30, 11, 10);
        traced(3, 0, 1, 30, 11, 50, 10);
        traced(4, 0, 1, 11, 10);
        traced(5, 0, 1, 60, 11, 10);
        traced(5, 0, 2, 61, 40, 12, 10);
        traced(1, 0, 3, 13, 11, 20, 10, 12);
        traced(2, 0, 3, 13, 30, 11, 10, 12);
        traced(4, 0, 3, 13, 11, 10, 40, 12);
        traced(5, 0, 3, 13, 60, 11, 10, 61, 40, 12, 10);
    }

    void p49_theMostBodiesThatRun() {
        traced(3, 0, 3, 51, 13, 30, 11, 50, 10, 12, 30, 11, 50, 10);
    }

    /** The bodies that had begun when it was parted by 0, and none behind that. */
    void p49_partedBy0ThoseThatHadBegun() {
        traced(1, 3, 2, 12);
        traced(4, 3, 2, 40, 12);
        traced(5, 3, 2, 61, 40, 12);
        traced(1, 3, 3, 13, 11, 20, 10, 12);
        traced(3, 3, 3, 51, 13, 30, 11, 50, 10, 12);
        traced(5, 3, 3, 13, 60, 11, 10, 61, 40, 12);
    }

    void p49_aRefusedActLeavesNone() {
        NymphRota x = Scenes.rich();
        x.act(0, 4, 0);
        refused(() -> {
            NymphRota y = Scenes.rich();
            y.act(0, 4, 0);
            return y;
        }, -3, y -> y.trace(0), y -> y.trace(4));
        due("the next one traces again", x.act(0, 0, 0), 6);
        due("20", x.trace(0), 20);
    }

    // ---- promise 50

    void p50_whatIs0To6() {
        ends(Scenes::rich, 0, 5, 6, 5, NymphRota::many);
    }

    void p50_ofANewObject() {
        for (int what = 0; what <= 6; what++) {
            due("many(" + what + ")", Scenes.bare().many(what), 0);
        }
    }

    void p50_ofOneThatIsInUse() {
        int[] want = {5, 2, 1, 2, 3, 13, 5};
        for (int what = 0; what <= 6; what++) {
            int asked = what;
            due("many(" + what + ")", Scenes.rich().many(what), want[what]);
            changesNothing(Scenes::rich, x -> x.many(asked));
        }
    }

    void p50_theMostOfAll() {
        NymphRota x = Scenes.reported();
        x.figure(1, 0, 0, 0);
        for (int k = 0; k < 6; k++) {
            x.change(k, 4, 1);
        }
        x.rules();
        Check.rules(x, "girl keep;".repeat(8));
        x.prove(4);
        for (int i = 0; i < 25; i++) {
            x.feed(0, 8);
        }
        x.act(2, 3, 1);
        int[] want = {6, 8, 6, 6, 4, 200, 11};
        for (int what = 0; what <= 6; what++) {
            due("many(" + what + ")", x.many(what), want[what]);
        }
    }
}
