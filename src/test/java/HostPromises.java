/** Promises 41 to 52. */
final class HostPromises {
    private final Check check;

    private HostPromises(Check check) {
        this.check = check;
    }

    static void run(Check check) {
        HostPromises all = new HostPromises(check);
        all.sheet();
        all.write();
        all.item();
        all.goAll();
        all.wouldBe();
        all.shelf();
        all.taken();
        all.act();
        all.parted();
        all.trace();
        all.many();
        all.keep();
    }

    private void due(String what, int got, int want) {
        check.due(what, got, want);
    }

    private void sheet() {
        check.promise(41);
        NymphRota x = new NymphRota();
        due("SHEET 4", x.sheet(4, 0, 1), -1);
        due("SHEET -1", x.sheet(-1, 0, 1), -1);
        due("sort 5", x.sheet(0, 5, 1), -1);
        due("sort -2", x.sheet(0, -2, 1), -1);
        due("41", x.sheet(0, 0, 41), -1);
        due("below 0", x.sheet(0, 0, -1), -14);
        due("far below 0", x.sheet(0, 4, Integer.MIN_VALUE), -14);
        due("BAD is named first", x.sheet(0, 5, -1), -1);
        due("missing yet", x.item(0, 0, 0), -11);
        due("40", x.sheet(0, 2, 40), 1);
        x.write(0, 39, 7);
        due("refused", x.sheet(0, 2, -1), -14);
        due("as it was", x.item(0, 2, 39), 7);
        due("again", x.sheet(0, 2, 40), 1);
        due("all 0", x.item(0, 2, 39), 0);
        due("none", x.sheet(0, 2, 0), 1);
        due("an empty row", x.item(0, 2, 0), -12);
        due("missing; n counts nothing", x.sheet(0, -1, -5), 1);
        due("missing; n counts nothing", x.sheet(0, -1, 99), 1);
        due("missing", x.item(0, 2, 0), -11);
        due("no such SHEET", x.sheet(4, -1, 0), -1);
    }

    private void write() {
        check.promise(42);
        NymphRota x = new NymphRota();
        due("missing", x.write(0, 0, 1), -11);
        due("SHEET 4", x.write(4, 0, 1), -1);
        due("SHEET -1", x.write(-1, 0, 1), -1);
        int[] values = {0, 1, -1, 127, 128, 255, 256, 32767, 32768, 65536, -129, Integer.MAX_VALUE, Integer.MIN_VALUE};
        for (int sort = 0; sort <= 4; sort++) {
            x.sheet(0, sort, 3);
            due("outside", x.write(0, 3, 1), -12);
            due("outside", x.write(0, -1, 1), -12);
            due("far outside", x.write(0, Integer.MAX_VALUE, 1), -12);
            for (int v : values) {
                due("written", x.write(0, 2, v), 1);
                int[] want = {(byte) v, (short) v, v, v, v != 0 ? 1 : 0};
                due("narrowed", x.item(0, sort, 2), want[sort]);
            }
            due("the others are 0", x.item(0, sort, 1), 0);
        }
    }

    private void item() {
        check.promise(43);
        NymphRota x = new NymphRota();
        x.sheet(1, 1, 2);
        x.write(1, 1, -12);
        due("as low as these", x.item(1, 1, 1), -12);
        due("another sort", x.item(1, 0, 1), -13);
        due("another sort, outside", x.item(1, 2, 9), -13);
        due("outside", x.item(1, 1, 2), -12);
        due("outside", x.item(1, 1, -1), -12);
        due("missing", x.item(0, 3, 9), -11);
        due("SHEET 4", x.item(4, 0, 0), -1);
        due("SHEET -1", x.item(-1, 0, 0), -1);
        due("sort 5", x.item(1, 5, 0), -1);
        due("sort -1", x.item(1, -1, 0), -1);
        due("sort -1 of a missing one", x.item(0, -1, 0), -1);
    }

    private void goAll() {
        check.promise(44);
        NymphRota x = Check.five();
        Check.acts(x, 0, 1, 77, -1, 6, 2, 0);
        due("SHEET 4", x.goAll(4, 0, 1), -1);
        due("SHEET -1", x.goAll(-1, 0, 1), -1);
        due("n 21", x.goAll(0, 0, 21), -1);
        due("n -1", x.goAll(0, 0, -1), -1);
        due("missing", x.goAll(1, 0, 0), -11);
        x.sheet(1, 2, 3);
        due("no bytes", x.goAll(1, 9, 1), -13);
        due("nothing", x.goAll(0, 0, 0), 0);
        due("nothing, from outside", x.goAll(0, -9, 0), 0);
        due("from outside", x.goAll(0, -1, 3), -12);
        due("from far outside", x.goAll(0, Integer.MAX_VALUE, 3), -12);
        due("nothing yet", x.state(0), 0);
        due("two of five are ACTS", x.goAll(0, 0, 5), 23 + 21);
        due("two BELLS", x.state(0), 2);
        due("SCORE", x.state(2), 44);
        due("outside", x.goAll(0, 5, 2), -12);
        due("what stood ahead was done", x.state(0), 3);
        x.ends(4);
        Check.acts(x, 2, 0, 0, 0);
        due("left out, when OVER", x.goAll(2, 0, 3), x.state(2) - 44 - 8);
        due("OVER", x.state(0), 4);
        due("outside, when OVER", x.goAll(2, 0, 4), -12);
        x.ends(16);
        Check.acts(x, 3, 0, 0);
        due("SHEET 3", x.goAll(3, 1, 1) > 0 ? 1 : 0, 1);
        due("SHELF 3", x.shelf(3, 1, 3), 1);
        due("it holds it", x.taken(3, 10), 2);
    }

    private void wouldBe() {
        check.promise(45);
        NymphRota x = Check.five();
        Check.acts(x, 0, 1, 2, 6, 0);
        due("SHEET 4", x.wouldBe(4, 0, 1), -1);
        due("SHEET -1", x.wouldBe(-1, 0, 1), -1);
        due("n 21", x.wouldBe(0, 0, 21), -1);
        due("n -1", x.wouldBe(0, 0, -1), -1);
        due("missing", x.wouldBe(1, 0, 0), -11);
        x.sheet(1, 4, 3);
        due("no bytes", x.wouldBe(1, 9, 1), -13);
        due("two", x.wouldBe(0, 0, 2), 23 + 21);
        due("nothing", x.wouldBe(0, 9, 0), 0);
        due("no ACT", x.wouldBe(0, 0, 3), -4);
        due("no ACT is met first", x.wouldBe(0, 0, 9), -4);
        due("outside", x.wouldBe(0, 3, 2), -12);
        due("from outside", x.wouldBe(0, -1, 2), -12);
        due("far outside", x.wouldBe(0, Integer.MAX_VALUE, 20), -12);
        x.ends(1);
        due("one BELL", x.wouldBe(0, 0, 1), 23);
        due("OVER ahead of the second", x.wouldBe(0, 0, 2), -4);
        due("nothing changed", x.state(0) + x.state(2) + x.state(4), 0);
        x.figure(1, 0, 0, 0);
        x.ends(12);
        due("an ACT by now", x.wouldBe(0, 2, 1) > 0 ? 1 : 0, 1);
    }

    private void shelf() {
        check.promise(46);
        NymphRota x = Check.five();
        due("SHELF 4", x.shelf(4, 0, 0), -1);
        due("SHELF -1", x.shelf(-1, 0, 0), -1);
        due("what 3", x.shelf(0, 3, 0), -1);
        due("what -1", x.shelf(0, -1, 0), -1);
        due("FIGURE 5", x.shelf(0, 0, 5), -1);
        due("FIGURE -1", x.shelf(0, 0, -1), -1);
        due("SHEET 4", x.shelf(0, 1, 4), -1);
        due("SHEET -1", x.shelf(0, 1, -1), -1);
        due("a FIGURE", x.shelf(0, 0, 4), 1);
        due("it holds it", x.taken(0, 0), 4);
        due("a missing row", x.shelf(0, 1, 0), 1);
        due("that is nothing", x.taken(0, 0), -11);
        x.sheet(0, 3, 7);
        due("a row", x.shelf(0, 1, 0), 1);
        due("it holds it", x.taken(0, 13), 7);
        due("nothing; n counts nothing", x.shelf(0, 2, 99), 1);
        due("nothing", x.taken(0, 13), -11);
    }

    private void taken() {
        check.promise(47);
        NymphRota x = Check.five();
        due("SHELF 4", x.taken(4, 0), -1);
        due("SHELF -1", x.taken(-1, 0), -1);
        int[] wrong = {-1, 6, 9, 15, Integer.MIN_VALUE, Integer.MAX_VALUE};
        for (int as : wrong) {
            due("as " + as, x.taken(0, as), -1);
        }
        due("nothing as a FIGURE", x.taken(0, 5), -11);
        due("nothing as a row", x.taken(0, 14), -11);
        String[] under = {"01", "02", "023", "04", "045"};
        int[] figures = {0, 1, 4, 2, 3};
        for (int i = 0; i < 5; i++) {
            x.shelf(1, 0, figures[i]);
            for (int as = 0; as <= 5; as++) {
                due("taken as " + as, x.taken(1, as), under[i].indexOf('0' + as) >= 0 ? figures[i] : -13);
            }
            due("a FIGURE as a row", x.taken(1, 10), -13);
        }
        x.remake(3, 1);
        due("of its KIND at the time", x.taken(1, 1), 3);
        for (int sort = 0; sort <= 4; sort++) {
            x.sheet(2, sort, 10 + sort);
            x.shelf(2, 1, 2);
            for (int as = 10; as <= 14; as++) {
                due("row as " + as, x.taken(2, as), as - 10 == sort ? 10 + sort : -13);
            }
            due("a row as a FIGURE", x.taken(2, 0), -13);
        }
        x.sheet(2, -1, 0);
        due("the row is held yet", x.taken(2, 14), 14);
        x.sheet(2, 1, 3);
        due("the row that it was", x.taken(2, 14), 14);
        x.sheet(3, 0, 0);
        x.shelf(3, 1, 3);
        due("an empty row", x.taken(3, 10), 0);
        NymphRota y = new NymphRota();
        y.keep();
        y.figure(1, 0, 0, 0);
        y.shelf(0, 0, 0);
        y.again();
        due("no such one at the time", y.taken(0, 1), -11);
        y.figure(2, 0, 0, 0);
        due("another one by now", y.taken(0, 2), 0);
    }

    private void acts(NymphRota x, int act, int v, int want, int... bodies) {
        due("ACT " + act, x.act(0, act, v), want);
        due("bodies", x.many(6), bodies.length);
        for (int i = 0; i < bodies.length; i++) {
            due("body " + i, x.trace(i), bodies[i]);
        }
    }

    private void act() {
        check.promise(48);
        NymphRota x = Check.five();
        x.shelf(0, 0, 0);
        acts(x, 0, 5, 15 ^ 7, 20, 10);
        acts(x, 1, 5, 15 ^ 7, 11, 20, 10);
        acts(x, 2, 5, 5 / 3, 12);
        acts(x, 2, -5, -1, 12);
        acts(x, 3, 5, (15 ^ 7) - 1, 13, 11, 20, 10, 12);
        x.shelf(0, 0, 1);
        acts(x, 0, 5, 16, 10);
        acts(x, 1, 5, (16 - 2) * 3, 30, 11, 10);
        acts(x, 3, 6, (19 - 2) * 3 - 2, 13, 30, 11, 10, 12);
        x.shelf(0, 0, 2);
        acts(x, 2, 7, 7 / 3 - 1, 40, 12);
        acts(x, 3, 7, (23 - 4) - 1, 13, 11, 10, 40, 12);
        x.shelf(0, 0, 3);
        acts(x, 1, 5, -18, 60, 11, 10);
        acts(x, 2, 50, (50 / 6 - 1) ^ 12, 61, 40, 12, 10);
        x.shelf(0, 0, 4);
        acts(x, 0, 5, 13 * 3 + 4, 50, 10);
        int drips = (13 * 3 + 4 - 6) * 3;
        acts(x, 1, 5, drips, 30, 11, 50, 10);
        int more = (11 * 3 + 4 - 6) * 3;
        acts(x, 3, 5, drips - 5 / 4 + more, 51, 13, 30, 11, 50, 10, 12, 30, 11, 50, 10);
        acts(x, 0, Integer.MAX_VALUE, (Integer.MAX_VALUE + 8) * 3 + 4, 50, 10);
        acts(x, 4, 5, 0);
        x.act(0, 0, 1);
        acts(x, -1, 5, 0);
        x.act(0, 0, 1);
        due("SHELF 4", x.act(4, 0, 5), 0);
        due("no TRACE then", x.many(6), 0);
        x.act(0, 0, 1);
        due("SHELF -1", x.act(-1, 0, 5), 0);
        due("no TRACE then", x.many(6), 0);
        x.act(0, 0, 1);
        due("nothing", x.act(1, 0, 5), 0);
        due("no TRACE then", x.many(6), 0);
        x.sheet(0, 2, 2);
        x.shelf(2, 1, 0);
        x.act(0, 0, 1);
        due("a row", x.act(2, 0, 5), 0);
        due("no TRACE then", x.many(6), 0);
        x.change(4, 4, 1);
        acts(x, 0, 5, 13 * 3 + 4, 50, 10);
    }

    /** n - a + 3 is 0 of FIGURE 0 in NICHE 3, -1 of it in NICHE 4. */
    private void parted() {
        NymphRota x = new NymphRota();
        x.figure(5, 0, 0, 3);
        x.shelf(0, 0, 0);
        acts(x, 2, 9, -15, 61, 40, 12);
        acts(x, 3, 9, -15, 13, 60, 11, 10, 61, 40, 12);
        acts(x, 1, 9, -(27 - 6), 60, 11, 10);
        x.remake(0, 3);
        acts(x, 3, 9, -15, 51, 13, 30, 11, 50, 10, 12);
        x.remake(0, 1);
        acts(x, 2, 0, -15, 12);
        x.change(0, 3, 4);
        acts(x, 2, Integer.MIN_VALUE, Integer.MIN_VALUE, 12);
        acts(x, 2, 9, -9, 12);
    }

    private void trace() {
        check.promise(49);
        NymphRota x = Check.five();
        due("none yet", x.trace(0), -3);
        x.shelf(0, 0, 0);
        x.act(0, 0, 1);
        due("the first", x.trace(0), 20);
        due("the second", x.trace(1), 10);
        due("no third", x.trace(2), -3);
        due("-1", x.trace(-1), -3);
        due("far off", x.trace(Integer.MAX_VALUE), -3);
        x.act(0, 2, 1);
        due("the latest", x.trace(0), 12);
        due("no more", x.trace(1), -3);
        x.taken(0, 0);
        due("stays", x.trace(0), 12);
    }

    private void many() {
        check.promise(50);
        NymphRota x = Check.five();
        Check.rules(x, "girl keep; marble smoke;");
        x.change(1, 4, 1);
        x.change(3, 4, 1);
        x.change(4, 4, 1);
        for (int i = 0; i < 4; i++) {
            x.report(0, 0, 0, 0);
        }
        x.prove(1);
        x.feed(0, 7);
        x.shelf(0, 0, 4);
        x.act(0, 3, 0);
        int[] want = {5, 2, 3, 4, 1, 7, 11};
        for (int what = 0; what <= 6; what++) {
            due("many(" + what + ")", x.many(what), want[what]);
        }
        due("what 7", x.many(7), -1);
        due("what -1", x.many(-1), -1);
    }

    private void keep() {
        check.promise(51);
        NymphRota x = Check.five();
        Check.rules(x, "girl keep; marble smoke;");
        x.report(2, 1, 5, 6);
        x.niche(3, 0, 4);
        x.niche(3, 1, 5);
        x.weather(2, 9);
        x.ends(7);
        x.seed(99);
        x.bell();
        due("kept", x.keep(), 1);
        int score = x.state(2);
        int relieved = x.state(4);
        int tired = x.figureOf(3, 1);
        x.bell();
        x.lot();
        x.figure(1, 1, 1, 1);
        x.remake(0, 5);
        x.change(0, 2, 8);
        x.change(0, 3, 4);
        Check.rules(x, "figure keep;");
        x.forget();
        x.report(1, 0, 3, 3);
        x.niche(3, 0, 0);
        x.niche(3, 1, 0);
        x.weather(2, 0);
        x.ends(10);
        x.feed(0, 3);
        x.sheet(0, 2, 5);
        x.shelf(0, 0, 2);
        x.act(0, 0, 0);
        x.prove(2);
        check.promise(52);
        due("nothing kept", new NymphRota().again(), -3);
        due("five", x.again(), 5);
        due("FIGURES", x.many(0), 5);
        due("BELL", x.state(0), 1);
        due("END", x.state(1), 7);
        due("SCORE", x.state(2), score);
        due("RELIEVED", x.state(4), relieved);
        due("TIRED", x.figureOf(3, 1), tired);
        due("KIND", x.figureOf(0, 0), 1);
        due("GRACE", x.figureOf(0, 2), 3);
        due("NICHE", x.figureOf(0, 3), 0);
        due("RULES", x.many(1), 2);
        due("they tell", x.figureOf(0, 9), 2);
        due("REPORTS", x.many(3), 1);
        due("they are as they were: girls of 6 to 8", x.nymph(1) * 1000 + x.nymph(2) * 100 + x.nymph(3), 2600);
        due("SHADE", x.nicheOf(3, 0), 4);
        due("WET", x.nicheOf(3, 1), 5);
        due("WEATHER", x.weather(2, 9), 9);
        due("z", x.seed(5), 99);
        check.promise(51);
        due("THE TAPE is as it is", x.many(5), 3);
        due("SHEETS are", x.item(0, 2, 4), 0);
        due("SHELVES are", x.taken(0, 4), 2);
        due("THE TRACE is", x.many(6), 1);
        due("ROWS are", x.many(4), 2);
        check.promise(52);
        x.bell();
        due("it stays", x.again(), 5);
        due("BELL again", x.state(0), 1);
        due("z again", x.seed(5), 99);
        x.bell();
        x.keep();
        x.bell();
        x.again();
        due("the latest", x.state(0), 2);
    }
}
