/** Promises 51 and 52. */
final class KeptEdges extends Edges {
    /** Changes all that is kept, by every call that can. */
    private static void change(NymphRota x) {
        x.figure(5, 50, 9, 4);
        for (int k = 0; k < 5; k++) {
            x.change(k, 1, 33 + k);
            x.change(k, 2, 8);
            x.change(k, 3, 5 - k);
            x.change(k, 4, 1 - x.figureOf(k, 4));
            x.remake(k, 1 + (x.figureOf(k, 0) + 1) % 5);
        }
        for (int bell = 0; bell <= 15; bell++) {
            x.weather(bell, 15 - bell);
        }
        for (int f = 0; f <= 5; f++) {
            x.niche(f, 0, 9 - f);
            x.niche(f, 1, 4 + f);
        }
        x.ends(16);
        x.bell();
        x.lot();
        Check.rules(x, "figure if tired > 3 smoke; girl if 9999 = bell relieve; marble keep; dreamer keep;");
        x.forget();
        for (int r = 0; r < 6; r++) {
            x.report(r, 1, 2, 3);
        }
        x.seed(123456);
    }

    // ---- promise 51

    void p51_answers1() {
        due("a new object", Scenes.bare().keep(), 1);
        due("in use", Scenes.rich().keep(), 1);
        due("OVER", Scenes.over().keep(), 1);
        due("full", Scenes.six().keep(), 1);
    }

    void p51_nothingThatIsThereChanges() {
        NymphRota x = Scenes.rich();
        x.keep();
        NymphRota y = Scenes.rich();
        for (int what = 0; what <= 6; what++) {
            due("state", x.state(what), y.state(what));
            due("many", x.many(what), y.many(what));
        }
        x.again();
        due("as it was kept", x.state(0), 2);
    }

    void p51_allElseIsKept() {
        NymphRota x = Scenes.untaped();
        x.keep();
        change(x);
        x.again();
        NymphRota y = Scenes.untaped();
        y.keep();
        alike("alike", x, y);
    }

    void p51_theChangesAreSeenAtAll() {
        NymphRota x = Scenes.untaped();
        change(x);
        NymphRota y = Scenes.untaped();
        due("BELL", x.state(0) == y.state(0) ? 1 : 0, 0);
        due("WILL", x.figureOf(2, 9) == y.figureOf(2, 9) ? 1 : 0, 0);
    }

    void p51_theTapeIsNotKept() {
        NymphRota x = Scenes.rich();
        x.keep();
        x.feed(' ', 1);
        x.again();
        due("14 bytes", x.many(5), 14);
        x.rules();
        x.again();
        due("used up", x.many(5), 0);
    }

    void p51_rowsAreNotKept() {
        NymphRota x = Scenes.rich();
        x.keep();
        x.alterRow(0, 0, 77);
        x.again();
        due("altered", x.row(0, 0), 77);
        x.prove(0);
        x.again();
        due("none", x.many(4), 0);
    }

    void p51_sheetsAreNotKept() {
        NymphRota x = Scenes.rich();
        x.keep();
        x.write(0, 0, 7);
        x.sheet(1, -1, 0);
        x.sheet(3, 3, 40);
        x.again();
        due("written", x.item(0, 0, 0), 7);
        due("missing", x.item(1, 2, 0), -11);
        due("a row", x.item(3, 3, 39), 0);
    }

    void p51_shelvesAreNotKept() {
        NymphRota x = Scenes.rich();
        x.keep();
        x.shelf(0, 2, 0);
        x.shelf(1, 0, 3);
        x.shelf(3, 1, 0);
        x.again();
        due("nothing", x.taken(0, 0), -11);
        due("a FIGURE", x.taken(1, 0), 3);
        due("a row", x.taken(3, 10), 3);
    }

    void p51_theTraceIsNotKept() {
        NymphRota x = Scenes.rich();
        x.keep();
        x.act(0, 0, 1);
        x.again();
        due("two bodies", x.many(6), 2);
        due("20", x.trace(0), 20);
    }

    // ---- promise 52

    void p52_noneIfNothingIsKept() {
        refused(Scenes::bare, -3, NymphRota::again);
        refused(Check::five, -3, NymphRota::again);
    }

    void p52_answersHowManyFigures() {
        due("one", Scenes.rich().again(), 1);
        NymphRota x = Scenes.bare();
        x.keep();
        for (int k = 1; k <= 6; k++) {
            due("none", x.again(), 0);
            for (int i = 0; i < k; i++) {
                x.figure(1, 0, 0, 0);
            }
        }
        x.keep();
        due("six", x.again(), 6);
    }

    void p52_whatIsKeptStays() {
        NymphRota x = Scenes.untaped();
        x.keep();
        for (int i = 0; i < 2; i++) {
            change(x);
            due("again", x.again(), 5);
        }
        NymphRota y = Scenes.untaped();
        y.keep();
        alike("alike", x, y);
    }

    void p52_theLatest() {
        NymphRota x = Scenes.rich();
        due("BELL 1", x.again() == 1 ? x.state(0) : -1, 1);
        x.bell();
        x.keep();
        x.anew();
        due("BELL 2", x.again() == 1 ? x.state(0) : -1, 2);
    }

    void p52_whatIsKeptAndWhatIsNowShareNothing() {
        NymphRota x = Scenes.untaped();
        x.keep();
        x.again();
        change(x);
        x.again();
        NymphRota y = Scenes.untaped();
        y.keep();
        alike("alike", x, y);
    }

    void p52_whatWasOverOrFullIsNotIfItWasNotKeptSo() {
        NymphRota x = Scenes.bare();
        x.keep();
        for (int k = 0; k < 6; k++) {
            x.figure(1, 0, 0, 0);
            x.report(0, 0, 0, 0);
        }
        Scenes.after(x, 12);
        due("OVER", x.bell(), -4);
        x.again();
        due("not OVER", x.bell(), 0);
        due("not full", x.figure(1, 0, 0, 0), 0);
        due("nor REPORTS", x.report(0, 0, 0, 0), 0);
    }

    void p52_whatWasKeptOverIsOver() {
        NymphRota x = Scenes.over();
        x.keep();
        x.anew();
        x.again();
        due("OVER", x.bell(), -4);
        due("BELL", x.state(0), 2);
    }
}
