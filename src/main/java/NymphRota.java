import java.util.Arrays;

/** A rota of FIGURES in a civic basin. ../shared/DOC.md says what each call promises; its words stand here in capitals. */
public final class NymphRota {
    public static final int BAD = -1, FULL = -2, NONE = -3, STATE = -4;

    private static final int NO_ROW = -9;
    private static final int NOTHING_THERE = -11;
    private static final int OUTSIDE = -12;
    private static final int OTHER_SORT = -13;
    private static final int BELOW_ZERO = -14;
    private static final int PARTED_BY_ZERO = -15;

    private static final int MOST_FIGURES = 6;
    private static final int NICHES = 6;
    private static final int MOST_WET = 9;
    private static final int MOST_GRACE = 9;
    private static final int MOST_TIRED = 99;
    private static final int FAINT = 60;
    private static final int SMOKE_RESTS = 25;
    private static final int BELLS = 16;
    private static final int MOST_WEATHER = 15;
    private static final int MOST_PLAN = 4;
    private static final int ROW_PARTS = 3;
    private static final int MOST_SHOWN = 999;
    private static final int MOST_TIMES = 40;
    private static final int MOST_ACTS = 20;
    private static final int SHEETS = 4;
    private static final int SHELVES = 4;
    private static final int ROW_AS = 10;

    /** WILL; 1, between these, is to keep, by which nothing is done. */
    private static final int RELIEVE = 0;
    private static final int SMOKE = 2;

    private final Basin basin = new Basin();
    private final Basin kept = new Basin();
    private boolean isKept = false;
    private final Tape tape = new Tape();
    private final Plans plans = new Plans();
    private final int[][] rows = new int[MOST_PLAN][ROW_PARTS];
    private int rowCount = 0;
    private final Sheet[] sheets = new Sheet[SHEETS];
    private final Shelf[] shelves = new Shelf[SHELVES];
    private final Acting acting = new Acting();

    public NymphRota() {
        for (int i = 0; i < SHEETS; i++) {
            sheets[i] = new Sheet();
        }
        for (int i = 0; i < SHELVES; i++) {
            shelves[i] = new Shelf();
        }
    }

    // ---- the basin, figures

    public int figure(int kind, int tired, int grace, int niche) {
        if (!Kinds.isMade(kind) || !isBetween(tired, 0, MOST_TIRED) || !isBetween(grace, 0, MOST_GRACE)
                || !isNiche(niche)) {
            return BAD;
        }
        int k = basin.count;
        if (k >= MOST_FIGURES) {
            return FULL;
        }
        basin.kind[k] = kind;
        basin.grace[k] = grace;
        basin.niche[k] = niche;
        basin.now.tired[k] = tired;
        basin.now.putRelieved(k, false);
        basin.count = k + 1;
        return k;
    }

    public int figureOf(int k, int what) {
        if (!basin.isFigure(k)) {
            return BAD;
        }
        Moment now = basin.now;
        switch (what) {
            case 0: return basin.kind[k];
            case 1: return now.tired[k];
            case 2: return basin.grace[k];
            case 3: return basin.niche[k];
            case 4: return oneIf(now.isRelieved(k));
            case 5: return basin.wearies(now, k);
            case 6: return basin.shows(now, k);
            case 7: return basin.pays(now, k);
            case 8: return oneIf(basin.mayBeRelieved(now, k));
            case 9: return basin.will(now, k);
            default: return BAD;
        }
    }

    public int change(int k, int what, int v) {
        if (!basin.isFigure(k)) {
            return BAD;
        }
        Moment now = basin.now;
        switch (what) {
            case 1: return isBetween(v, 0, MOST_TIRED) ? put(now.tired, k, v) : BAD;
            case 2: return isBetween(v, 0, MOST_GRACE) ? put(basin.grace, k, v) : BAD;
            case 3: return isNiche(v) ? put(basin.niche, k, v) : BAD;
            case 4: return isBetween(v, 0, 1) ? changeRelieved(k, v == 1) : BAD;
            default: return BAD;
        }
    }

    public int remake(int k, int kind) {
        if (!basin.isFigure(k) || !Kinds.isMade(kind)) {
            return BAD;
        }
        return put(basin.kind, k, kind);
    }

    public int weather(int bell, int v) {
        if (!isBetween(bell, 0, BELLS - 1) || !isBetween(v, 0, MOST_WEATHER)) {
            return BAD;
        }
        return put(basin.weather, bell, v);
    }

    public int niche(int f, int what, int v) {
        if (!isNiche(f) || !isBetween(what, 0, 1) || !isBetween(v, 0, MOST_WET)) {
            return BAD;
        }
        return put(what == 0 ? basin.shade : basin.wet, f, v);
    }

    public int nicheOf(int f, int what) {
        if (!isNiche(f) || !isBetween(what, 0, 1)) {
            return BAD;
        }
        return what == 0 ? basin.shade[f] : basin.wet[f];
    }

    public int ends(int v) {
        if (!isBetween(v, 1, BELLS)) {
            return BAD;
        }
        if (v < basin.now.bell) {
            return STATE;
        }
        int was = basin.end;
        basin.end = v;
        return was;
    }

    public int anew() {
        int was = basin.now.bell;
        basin.now.clear();
        basin.score = 0;
        return was;
    }

    public int state(int what) {
        Moment now = basin.now;
        switch (what) {
            case 0: return now.bell;
            case 1: return basin.end;
            case 2: return basin.score;
            case 3: return oneIf(basin.isOver(now));
            case 4: return now.relieved;
            case 5: return basin.weatherOf(now.bell);
            case 6: return basin.upSet(now);
            default: return BAD;
        }
    }

    // ---- the rules

    public int feed(long eight, int n) {
        if (!isBetween(n, 1, 8)) {
            return BAD;
        }
        return tape.takes(eight, n) ? tape.size : FULL;
    }

    public int rules() {
        return tape.readInto(basin.rules);
    }

    // ---- bells

    public int bell() {
        if (basin.isOver(basin.now)) {
            return STATE;
        }
        return goOn(basin.restAct(basin.now));
    }

    public int on(int n) {
        return isBetween(n, 0, BELLS) ? basin.restWorth(n) : BAD;
    }

    public int when(int k) {
        return basin.isFigure(k) ? basin.restRelieves(k) : BAD;
    }

    public int graceFor(int k) {
        return basin.isFigure(k) ? basin.restBestBy(basin.grace, k, MOST_GRACE) : BAD;
    }

    public int nicheFor(int k) {
        return basin.isFigure(k) ? basin.restBestBy(basin.niche, k, NICHES - 1) : BAD;
    }

    // ---- who faints, ranks, rings, ways round

    public int faints(int k) {
        return basin.isFigure(k) ? basin.restFaints(k) : BAD;
    }

    public int rank(int k) {
        if (!basin.isFigure(k)) {
            return BAD;
        }
        return basin.isUp(basin.now, k) ? basin.aheadOf(k) : NONE;
    }

    public int rings(int what) {
        if (what == -1) {
            return basin.ringCount();
        }
        return basin.isFigure(what) ? basin.ringOf(what) : BAD;
    }

    public int way(int from, int to, int most) {
        if (!isNiche(from) || !isNiche(to) || !isBetween(most, 0, MOST_WET)) {
            return BAD;
        }
        int up = basin.stepsRound(from, to, 1, most);
        int down = basin.stepsRound(from, to, NICHES - 1, most);
        return up == NONE || (down != NONE && down < up) ? down : up;
    }

    // ---- plans

    public int best(int n) {
        if (!isBetween(n, 0, MOST_PLAN)) {
            return BAD;
        }
        plans.tryAll(basin, n, 0);
        return plans.worth;
    }

    public int ith(int n, int i) {
        if (!isBetween(n, 0, MOST_PLAN) || !isBetween(i, 0, MOST_PLAN - 1)) {
            return BAD;
        }
        plans.tryAll(basin, n, 0);
        return i < plans.length ? plans.first[i] : NONE;
    }

    public int ways(int n) {
        if (!isBetween(n, 0, MOST_PLAN)) {
            return BAD;
        }
        plans.tryAll(basin, n, 0);
        return plans.ways;
    }

    public int roster(int n, int figures) {
        if (!isBetween(n, 0, MOST_PLAN) || !basin.isSet(figures)) {
            return BAD;
        }
        plans.tryAll(basin, n, figures);
        return plans.fewest;
    }

    public int bars(int n, int figures) {
        if (!isBetween(n, 0, MOST_PLAN) || !basin.isSet(figures)) {
            return BAD;
        }
        plans.tryAll(basin, n, figures);
        int barred = figures & ~plans.reached;
        for (int k = 0; k < basin.count; k++) {
            if ((barred & 1 << k) != 0) {
                return k;
            }
        }
        return NONE;
    }

    // ---- a game, strangers, lots

    public int game(int n) {
        return isBetween(n, 1, MOST_PLAN) ? plans.valueOfGame(basin, n) : BAD;
    }

    public int play(int n) {
        if (!isBetween(n, 1, MOST_PLAN)) {
            return BAD;
        }
        if (basin.isOver(basin.now)) {
            return NONE;
        }
        plans.valueOfGame(basin, n);
        return plans.opening;
    }

    public int report(int k, int asked, int least, int most) {
        if (!isBetween(k, 0, BELLS - 1) || !isBetween(asked, 0, 1)) {
            return BAD;
        }
        if (least < 0 || most < least || most > (asked == 0 ? MOST_TIRED : MOST_SHOWN)) {
            return BAD;
        }
        return basin.reports.add(k, asked, least, most);
    }

    public int forget() {
        int were = basin.reports.count;
        basin.reports.count = 0;
        return were;
    }

    public int nymph(int what) {
        if (!isBetween(what, 0, 3)) {
            return BAD;
        }
        Reports reports = basin.reports;
        reports.tryAll(basin);
        if (what == 0) {
            return reports.fits;
        }
        if (reports.fits == 0) {
            return NONE;
        }
        return what == 1 ? reports.fitKind : what == 2 ? reports.fitGrace : reports.fitTired;
    }

    public int liar() {
        basin.reports.tryAll(basin);
        return basin.reports.fits == 0 ? basin.reports.liar : NONE;
    }

    public int seed(int v) {
        int was = basin.z;
        basin.z = v;
        return was;
    }

    public int lot() {
        if (basin.isOver(basin.now)) {
            return STATE;
        }
        basin.z = Basin.nextZ(basin.z);
        return goOn(basin.actOf(basin.z));
    }

    public int times(int n, int v) {
        if (!isBetween(n, 1, MOST_TIMES) || !isBetween(v, 0, MOST_SHOWN)) {
            return BAD;
        }
        return basin.timesByLot(n, v);
    }

    // ---- rows

    public int prove(int n) {
        if (!isBetween(n, 0, MOST_PLAN)) {
            return BAD;
        }
        plans.tryAll(basin, n, 0);
        Moment then = basin.copyOfNow();
        rowCount = plans.length;
        for (int k = 0; k < rowCount; k++) {
            rows[k][0] = plans.first[k];
            rows[k][1] = basin.goBy(then, plans.first[k]);
            rows[k][2] = then.relieved;
        }
        return rowCount;
    }

    public int row(int k, int what) {
        return isInRow(k, what) ? rows[k][what] : NO_ROW;
    }

    public int alterRow(int k, int what, int v) {
        return isInRow(k, what) ? put(rows[k], what, v) : NO_ROW;
    }

    public int judge() {
        Moment then = basin.copyOfNow();
        for (int k = 0; k < rowCount; k++) {
            int[] told = rows[k];
            if (basin.isOver(then) || !basin.isAct(told[0])
                    || basin.goBy(then, told[0]) != told[1] || then.relieved != told[2]) {
                return k + 1;
            }
        }
        return 0;
    }

    // ---- the host

    public int sheet(int sheet, int sort, int n) {
        if (!isBetween(sheet, 0, SHEETS - 1)) {
            return BAD;
        }
        if (sort == Sheet.MISSING) {
            sheets[sheet].becomeRow(Sheet.MISSING, 0);
            return 1;
        }
        if (!Sheet.isSort(sort) || n > Sheet.MOST) {
            return BAD;
        }
        if (n < 0) {
            return BELOW_ZERO;
        }
        sheets[sheet].becomeRow(sort, n);
        return 1;
    }

    public int write(int sheet, int i, int v) {
        if (!isBetween(sheet, 0, SHEETS - 1)) {
            return BAD;
        }
        Sheet there = sheets[sheet];
        if (there.sort == Sheet.MISSING) {
            return NOTHING_THERE;
        }
        if (!there.has(i)) {
            return OUTSIDE;
        }
        there.items[i] = there.narrowed(v);
        return 1;
    }

    public int item(int sheet, int sort, int i) {
        if (!isBetween(sheet, 0, SHEETS - 1) || !Sheet.isSort(sort)) {
            return BAD;
        }
        Sheet there = sheets[sheet];
        int refusal = there.refusalAs(sort);
        if (refusal != 0) {
            return refusal;
        }
        return there.has(i) ? there.items[i] : OUTSIDE;
    }

    public int goAll(int sheet, int i, int n) {
        int refusal = refusalOfActs(sheet, n);
        if (refusal != 0) {
            return refusal;
        }
        Sheet there = sheets[sheet];
        int worth = 0;
        for (int j = 0; j < n; j++) {
            if (!there.has(i + j)) {
                return OUTSIDE;
            }
            int act = there.items[i + j];
            if (basin.isAct(act) && !basin.isOver(basin.now)) {
                worth += goOn(act);
            }
        }
        return worth;
    }

    public int wouldBe(int sheet, int i, int n) {
        int refusal = refusalOfActs(sheet, n);
        if (refusal != 0) {
            return refusal;
        }
        Sheet there = sheets[sheet];
        Moment then = basin.copyOfNow();
        int worth = 0;
        for (int j = 0; j < n; j++) {
            if (!there.has(i + j)) {
                return OUTSIDE;
            }
            int act = there.items[i + j];
            if (!basin.isAct(act) || basin.isOver(then)) {
                return STATE;
            }
            worth += basin.goBy(then, act);
        }
        return worth;
    }

    public int shelf(int shelf, int what, int n) {
        if (!isBetween(shelf, 0, SHELVES - 1)) {
            return BAD;
        }
        Shelf there = shelves[shelf];
        switch (what) {
            case 0:
                if (!basin.isFigure(n)) {
                    return BAD;
                }
                there.holdFigure(n);
                return 1;
            case 1:
                if (!isBetween(n, 0, SHEETS - 1)) {
                    return BAD;
                }
                there.holdRow(sheets[n].sort, sheets[n].length);
                return 1;
            case 2:
                there.holdNothing();
                return 1;
            default:
                return BAD;
        }
    }

    public int taken(int shelf, int as) {
        boolean asKind = Kinds.isKind(as);
        if (!isBetween(shelf, 0, SHELVES - 1) || (!asKind && !Sheet.isSort(as - ROW_AS))) {
            return BAD;
        }
        Shelf there = shelves[shelf];
        if (there.isRow()) {
            return there.sort == as - ROW_AS ? there.length : OTHER_SORT;
        }
        int k = there.figure;
        if (!basin.isFigure(k)) {
            return NOTHING_THERE;
        }
        return asKind && Kinds.isUnder(basin.kind[k], as) ? k : OTHER_SORT;
    }

    public int act(int shelf, int act, int x) {
        acting.clear();
        if (!isBetween(shelf, 0, SHELVES - 1) || !isBetween(act, 0, 3)) {
            return 0;
        }
        int k = shelves[shelf].figure;
        if (!basin.isFigure(k)) {
            return 0;
        }
        acting.begin(basin.kind[k], k, basin.niche[k]);
        int answer = act == 0 ? acting.poses(x)
                : act == 1 ? acting.drips(x)
                : act == 2 ? acting.glances(x) : acting.leaves(x);
        return acting.isParted ? PARTED_BY_ZERO : answer;
    }

    public int trace(int i) {
        return i >= 0 && i < acting.count ? acting.trace[i] : NONE;
    }

    public int many(int what) {
        switch (what) {
            case 0: return basin.count;
            case 1: return basin.rules.count;
            case 2: return Integer.bitCount(basin.now.relieved);
            case 3: return basin.reports.count;
            case 4: return rowCount;
            case 5: return tape.size;
            case 6: return acting.count;
            default: return BAD;
        }
    }

    // ---- kept

    public int keep() {
        kept.become(basin);
        isKept = true;
        return 1;
    }

    public int again() {
        if (!isKept) {
            return NONE;
        }
        basin.become(kept);
        return basin.count;
    }

    // ---- what the calls share

    private static boolean isBetween(int v, int least, int most) {
        return v >= least && v <= most;
    }

    private static boolean isNiche(int f) {
        return isBetween(f, 0, NICHES - 1);
    }

    private static int oneIf(boolean so) {
        return so ? 1 : 0;
    }

    /** Puts v into a row; answers what stood there. */
    private static int put(int[] row, int i, int v) {
        if (i < 0 || i >= row.length) {
            return BAD;
        }
        int was = row[i];
        row[i] = v;
        return was;
    }

    private int changeRelieved(int k, boolean to) {
        int was = oneIf(basin.now.isRelieved(k));
        basin.now.putRelieved(k, to);
        return was;
    }

    private int goOn(int act) {
        int worth = basin.goBy(basin.now, act);
        basin.score += worth;
        return worth;
    }

    private boolean isInRow(int k, int what) {
        return k >= 0 && k < rowCount && isBetween(what, 0, ROW_PARTS - 1);
    }

    /** Why n items of a SHEET can't be taken for ACTS; 0, if they can. */
    private int refusalOfActs(int sheet, int n) {
        if (!isBetween(sheet, 0, SHEETS - 1) || !isBetween(n, 0, MOST_ACTS)) {
            return BAD;
        }
        return sheets[sheet].refusalAs(Sheet.BYTES);
    }

    /** What the BELLS change, apart from the rest, so that it can be tried out on a copy. */
    private static final class Moment {
        final int[] tired = new int[MOST_FIGURES];
        int relieved = 0;
        int bell = 0;

        void become(Moment other) {
            System.arraycopy(other.tired, 0, tired, 0, MOST_FIGURES);
            relieved = other.relieved;
            bell = other.bell;
        }

        void clear() {
            Arrays.fill(tired, 0);
            relieved = 0;
            bell = 0;
        }

        boolean isRelieved(int k) {
            return (relieved & 1 << k) != 0;
        }

        void putRelieved(int k, boolean to) {
            relieved = to ? relieved | 1 << k : relieved & ~(1 << k);
        }
    }

    /** The tree of KINDS, and what each of them WEARIES and SHOWS. */
    private static final class Kinds {
        static final int MARBLE = 1;
        static final int GIRL = 2;
        static final int MATRON = 3;
        static final int NOVICE = 4;
        static final int DREAMER = 5;
        private static final int[] ABOVE = {-1, 0, 0, 2, 0, 4};

        static boolean isKind(int kind) {
            return kind >= 0 && kind <= DREAMER;
        }

        /** No FIGURE is of KIND 0: it only stands above the others. */
        static boolean isMade(int kind) {
            return kind >= MARBLE && kind <= DREAMER;
        }

        /** Whether a KIND is as, or under it. */
        static boolean isUnder(int kind, int as) {
            int at = kind;
            for (int step = 0; step < ABOVE.length && at >= 0 && at < ABOVE.length; step++) {
                if (at == as) {
                    return true;
                }
                at = ABOVE[at];
            }
            return false;
        }

        /** What one in no SHADE WEARIES. */
        static int wearies(int kind, int sun, int bell) {
            int asFigure = 3 + 4 * sun;
            int asGirl = asFigure + bell / 4;
            switch (kind) {
                case MARBLE: return 1;
                case GIRL: return asGirl;
                case MATRON: return Math.max(0, asGirl - 5);
                case NOVICE: return 2 * asFigure;
                case DREAMER: return bell % 2 == 0 ? 2 * asFigure : 0;
                default: return asFigure;
            }
        }

        /** What one that is UP SHOWS. */
        static int shows(int kind, int grace, int guests, int number) {
            int asGirl = guests + grace / 3;
            switch (kind) {
                case MARBLE: return Math.min(guests, 1);
                case GIRL: return asGirl;
                case MATRON: return Math.max(0, asGirl - 1);
                case NOVICE: return 2 * guests;
                case DREAMER: return 2 * guests + number;
                default: return guests;
            }
        }
    }

    /** All that keep() keeps, and how BELLS go by in it. */
    private static final class Basin {
        final Moment now = new Moment();
        final int[] kind = new int[MOST_FIGURES];
        final int[] grace = new int[MOST_FIGURES];
        final int[] niche = new int[MOST_FIGURES];
        int count = 0;
        final int[] weather = new int[BELLS];
        final int[] shade = new int[NICHES];
        final int[] wet = new int[NICHES];
        int end = 12;
        int score = 0;
        int z = 1;
        final Rules rules = new Rules();
        final Reports reports = new Reports();
        private final Moment then = new Moment();

        Basin() {
            Arrays.fill(weather, 5);
        }

        void become(Basin other) {
            now.become(other.now);
            System.arraycopy(other.kind, 0, kind, 0, MOST_FIGURES);
            System.arraycopy(other.grace, 0, grace, 0, MOST_FIGURES);
            System.arraycopy(other.niche, 0, niche, 0, MOST_FIGURES);
            count = other.count;
            System.arraycopy(other.weather, 0, weather, 0, BELLS);
            System.arraycopy(other.shade, 0, shade, 0, NICHES);
            System.arraycopy(other.wet, 0, wet, 0, NICHES);
            end = other.end;
            score = other.score;
            z = other.z;
            rules.become(other.rules);
            reports.become(other.reports);
        }

        /** One copy serves all that is tried out: no call tries two at once. */
        Moment copyOfNow() {
            then.become(now);
            return then;
        }

        boolean isFigure(int k) {
            return k >= 0 && k < count;
        }

        boolean isAct(int act) {
            return act >= 0 && act <= count;
        }

        boolean isSet(int figures) {
            return (figures & -1 << count) == 0;
        }

        boolean isOver(Moment m) {
            return m.bell >= end;
        }

        int weatherOf(int bell) {
            return bell >= 0 && bell < BELLS ? weather[bell] : 0;
        }

        int sunOf(int bell) {
            return weatherOf(bell) / 4;
        }

        int guestsOf(int bell) {
            return weatherOf(bell) % 4;
        }

        boolean isUp(Moment m, int k) {
            return isFigure(k) && !m.isRelieved(k) && m.tired[k] < FAINT;
        }

        int upSet(Moment m) {
            int up = 0;
            for (int k = 0; k < count; k++) {
                if (isUp(m, k)) {
                    up |= 1 << k;
                }
            }
            return up;
        }

        int wearies(Moment m, int k) {
            return Math.max(0, Kinds.wearies(kind[k], sunOf(m.bell), m.bell) - shade[niche[k]]);
        }

        int shows(Moment m, int k) {
            return isUp(m, k) ? Kinds.shows(kind[k], grace[k], guestsOf(m.bell), k) : 0;
        }

        int pays(Moment m, int k) {
            return isUp(m, k) ? Math.max(0, 10 + grace[k] - m.tired[k] / 8) : 0;
        }

        int will(Moment m, int k) {
            int[] facts = rules.values;
            facts[Rules.BELL] = m.bell;
            facts[Rules.TIRED] = m.tired[k];
            facts[Rules.GRACE] = grace[k];
            facts[Rules.GUESTS] = guestsOf(m.bell);
            facts[Rules.NUMBER] = k;
            return rules.tells(kind[k]);
        }

        boolean mayBeRelieved(Moment m, int k) {
            return pays(m, k) > 0 && will(m, k) == RELIEVE;
        }

        /** A BELL goes by in m behind an ACT; answers what it was WORTH. */
        int goBy(Moment m, int act) {
            int told = act - 1;
            int smoker = NONE;
            int worth = 0;
            if (isUp(m, told)) {
                int will = will(m, told);
                if (will == RELIEVE) {
                    worth = pays(m, told);
                    m.putRelieved(told, worth > 0);
                } else if (will == SMOKE) {
                    m.tired[told] = Math.max(0, m.tired[told] - SMOKE_RESTS);
                    smoker = told;
                }
            }
            for (int k = 0; k < count; k++) {
                if (k != smoker && !m.isRelieved(k)) {
                    worth += shows(m, k);
                    m.tired[k] = Math.min(MOST_TIRED, m.tired[k] + wearies(m, k));
                }
            }
            m.bell++;
            return worth;
        }

        /** The ACT of THE REST in the BELL that comes in m. */
        int restAct(Moment m) {
            for (int k = 0; k < count; k++) {
                if (mayBeRelieved(m, k)) {
                    return k + 1;
                }
            }
            return 0;
        }

        int restWorth(int n) {
            Moment m = copyOfNow();
            int worth = 0;
            for (int i = 0; i < n && !isOver(m); i++) {
                worth += goBy(m, restAct(m));
            }
            return worth;
        }

        int restRelieves(int k) {
            if (now.isRelieved(k)) {
                return NONE;
            }
            Moment m = copyOfNow();
            for (int bell = now.bell; bell < end; bell++) {
                goBy(m, restAct(m));
                if (m.isRelieved(k)) {
                    return bell;
                }
            }
            return NONE;
        }

        int restFaints(int k) {
            Moment m = copyOfNow();
            for (int bell = now.bell; bell <= end; bell++) {
                if (m.tired[k] >= FAINT) {
                    return bell;
                }
                if (bell < end) {
                    goBy(m, restAct(m));
                }
            }
            return NONE;
        }

        /** The least of 0 to most that, as item k of a row of ours, makes THE REST WORTH most. */
        int restBestBy(int[] row, int k, int most) {
            int was = row[k];
            int best = 0;
            int bestWorth = -1;
            for (int v = 0; v <= most; v++) {
                row[k] = v;
                int worth = restWorth(BELLS);
                if (worth > bestWorth) {
                    bestWorth = worth;
                    best = v;
                }
            }
            row[k] = was;
            return best;
        }

        /** RANK of one that is UP. */
        int aheadOf(int k) {
            int ahead = 0;
            for (int other = 0; other < count; other++) {
                boolean first = now.tired[other] > now.tired[k] || (now.tired[other] == now.tired[k] && other < k);
                if (first && isUp(now, other)) {
                    ahead++;
                }
            }
            return ahead;
        }

        private boolean areClose(int k, int other) {
            int apart = Math.abs(niche[k] - niche[other]);
            return apart <= 1 || apart == NICHES - 1;
        }

        private int closeTo(int k, int among) {
            int close = 0;
            for (int other = 0; other < count; other++) {
                if ((among & 1 << other) != 0 && areClose(k, other)) {
                    close |= 1 << other;
                }
            }
            return close;
        }

        /** The RING of a FIGURE, as a set; 0, if it isn't UP. */
        int ringOf(int k) {
            int up = upSet(now);
            int ring = up & 1 << k;
            for (int round = 1; round < count; round++) {
                int reached = ring;
                for (int one = 0; one < count; one++) {
                    if ((ring & 1 << one) != 0) {
                        reached |= closeTo(one, up);
                    }
                }
                ring = reached;
            }
            return ring;
        }

        int ringCount() {
            int rings = 0;
            int left = upSet(now);
            for (int k = 0; k < count; k++) {
                if ((left & 1 << k) != 0) {
                    left &= ~ringOf(k);
                    rings++;
                }
            }
            return rings;
        }

        /** Steps from a NICHE to another, each by as many on; NONE, if one is too WET. */
        int stepsRound(int from, int to, int by, int most) {
            int at = from;
            for (int steps = 0; steps < NICHES; steps++) {
                if (at == to) {
                    return steps;
                }
                at = (at + by) % NICHES;
                if (wet[at] > most) {
                    return NONE;
                }
            }
            return NONE;
        }

        static int nextZ(int z) {
            return z * 1103515245 + 12345;
        }

        int actOf(int z) {
            int acts = count + 1;
            return acts > 0 ? (z >>> 16) % acts : 0;
        }

        int timesByLot(int n, int v) {
            int times = 0;
            int lots = z;
            for (int i = 0; i < n; i++) {
                Moment m = copyOfNow();
                int worth = 0;
                for (int bell = now.bell; bell < end; bell++) {
                    lots = nextZ(lots);
                    worth += goBy(m, actOf(lots));
                }
                if (worth >= v) {
                    times++;
                }
            }
            return times;
        }
    }

    /** THE RULES, each with its condition as steps that come behind what they join. */
    private static final class Rules {
        static final int MOST = 8;

        /** The places of the FACTS among the values; whoever asks puts them there. */
        static final int BELL = 0;
        static final int TIRED = 1;
        static final int GRACE = 2;
        static final int GUESTS = 3;
        static final int NUMBER = 4;
        static final int FACTS = 5;

        /** Sorts of steps; those that compare stand as their SIGNS do among the bytes. */
        static final int LESS = 0;
        static final int EQUAL = 1;
        static final int MORE = 2;
        static final int NOT = 3;
        static final int AND = 4;
        static final int OR = 5;

        /** No step and no NUMBER is told by less than a byte of its own. */
        private static final int MOST_STEPS = Tape.MOST;
        private static final int MOST_VALUES = FACTS + Tape.MOST;

        int count = 0;
        private final int[] kind = new int[MOST];
        private final int[] will = new int[MOST];
        private final int[] endOf = new int[MOST];
        private int steps = 0;
        private final int[] sort = new int[MOST_STEPS];
        private final int[] left = new int[MOST_STEPS];
        private final int[] right = new int[MOST_STEPS];
        private int valueCount = FACTS;
        final int[] values = new int[MOST_VALUES];

        void clear() {
            count = 0;
            steps = 0;
            valueCount = FACTS;
        }

        void become(Rules other) {
            count = other.count;
            System.arraycopy(other.kind, 0, kind, 0, MOST);
            System.arraycopy(other.will, 0, will, 0, MOST);
            System.arraycopy(other.endOf, 0, endOf, 0, MOST);
            steps = other.steps;
            System.arraycopy(other.sort, 0, sort, 0, MOST_STEPS);
            System.arraycopy(other.left, 0, left, 0, MOST_STEPS);
            System.arraycopy(other.right, 0, right, 0, MOST_STEPS);
            valueCount = other.valueCount;
            System.arraycopy(other.values, 0, values, 0, MOST_VALUES);
        }

        /** Answers the place of a NUMBER among the values. */
        int addNumber(int n) {
            int place = Math.min(valueCount, MOST_VALUES - 1);
            values[place] = n;
            valueCount = place + 1;
            return place;
        }

        void addStep(int sortOfStep, int leftPlace, int rightPlace) {
            if (steps < MOST_STEPS) {
                sort[steps] = sortOfStep;
                left[steps] = leftPlace;
                right[steps] = rightPlace;
                steps++;
            }
        }

        /** Ends a RULE: the steps since the one before are its condition. */
        void addRule(int ofKind, int itsWill) {
            if (count < MOST) {
                kind[count] = ofKind;
                will[count] = itsWill;
                endOf[count] = steps;
                count++;
            }
        }

        int tells(int ofKind) {
            int from = 0;
            for (int r = 0; r < count; r++) {
                if (Kinds.isUnder(ofKind, kind[r]) && holds(from, endOf[r])) {
                    return will[r];
                }
                from = endOf[r];
            }
            return RELIEVE;
        }

        /** What steps answer stands in bits, the latest lowest; a condition of no steps holds. */
        private boolean holds(int from, int to) {
            long held = 1;
            for (int i = from; i < to; i++) {
                long below = held >>> 2 << 1;
                switch (sort[i]) {
                    case NOT:
                        held ^= 1;
                        break;
                    case AND:
                        held = below | (held & held >>> 1 & 1);
                        break;
                    case OR:
                        held = below | ((held | held >>> 1) & 1);
                        break;
                    default:
                        int apart = values[left[i]] - values[right[i]];
                        boolean isSo = sort[i] == LESS ? apart < 0 : sort[i] == EQUAL ? apart == 0 : apart > 0;
                        held = held << 1 | (isSo ? 1 : 0);
                        break;
                }
            }
            return (held & 1) != 0;
        }
    }

    /** THE TAPE, and how THE RULES are read off it. */
    private static final class Tape {
        static final int MOST = 200;
        private static final int MOST_DIGITS = 4;
        private static final int MOST_OPEN = 3;
        private static final int NO_RULES = -100;

        /** KINDS stand first, as they are numbered, then what a RULE does, as WILL is, then the facts. */
        private static final String WORDS =
                "figure marble girl matron novice dreamer relieve keep smoke bell tired grace guests number if and or not ";
        private static final int FIRST_KIND = 0;
        private static final int FIRST_WILL = 6;
        private static final int FIRST_FACT = 9;
        private static final int IF = 14;
        private static final int AND = 15;
        private static final int OR = 16;
        private static final int NOT = 17;
        private static final int NUMBER = 18;
        private static final int END = 19;
        private static final int WRONG = 20;

        private final byte[] bytes = new byte[MOST];
        int size = 0;
        /** A token is one of the above, or a sign as its byte; all of these are more. */
        private final int[] token = new int[MOST + 1];
        private final int[] number = new int[MOST + 1];
        private final int[] place = new int[MOST + 1];
        private int tokens = 0;
        private int at = 0;
        private int sight = END;
        private final Rules spare = new Rules();

        boolean takes(long eight, int n) {
            if (size + n > MOST) {
                return false;
            }
            for (int i = 0; i < n; i++) {
                bytes[size] = (byte) (eight >>> 8 * i);
                size++;
            }
            return true;
        }

        /** Uses THE TAPE up; answers how many RULES, or where the FAULT is. */
        int readInto(Rules rules) {
            split();
            size = 0;
            spare.clear();
            boolean isRight = true;
            for (int r = 0; r < Rules.MOST && isRight && sight != END; r++) {
                isRight = readRule();
            }
            if (!isRight || sight != END) {
                return NO_RULES - place[at];
            }
            rules.become(spare);
            return rules.count;
        }

        private static boolean isLetter(byte b) {
            return b >= 'a' && b <= 'z';
        }

        private static boolean isDigit(byte b) {
            return b >= '0' && b <= '9';
        }

        private static boolean isSign(byte b) {
            return b == ';' || b == '(' || b == ')' || (b >= '<' && b <= '>');
        }

        private void split() {
            tokens = 0;
            at = 0;
            for (int i = 0; i < size; i++) {
                if (bytes[i] != ' ' && !goesOn(i)) {
                    addToken(tokenAt(i), i);
                }
            }
            addToken(END, size);
            sight = token[0];
        }

        /** Whether byte i is of one NAME or NUMBER with the byte ahead of it. */
        private boolean goesOn(int i) {
            if (i <= 0 || i >= size) {
                return false;
            }
            return (isLetter(bytes[i]) && isLetter(bytes[i - 1])) || (isDigit(bytes[i]) && isDigit(bytes[i - 1]));
        }

        private void addToken(int sort, int from) {
            if (tokens <= MOST) {
                token[tokens] = sort;
                number[tokens] = sort == NUMBER ? numberAt(from) : 0;
                place[tokens] = from;
                tokens++;
            }
        }

        private int endOf(int from) {
            for (int i = from + 1; i < size; i++) {
                if (!goesOn(i)) {
                    return i;
                }
            }
            return size;
        }

        private int tokenAt(int from) {
            byte first = bytes[from];
            if (isLetter(first)) {
                return wordAt(from, endOf(from));
            }
            if (isDigit(first)) {
                return endOf(from) - from <= MOST_DIGITS ? NUMBER : WRONG;
            }
            return isSign(first) ? first : WRONG;
        }

        /** Which of WORDS the bytes are: follows them along each of the words in turn. */
        private int wordAt(int from, int to) {
            int word = 0;
            int same = from;
            for (int i = 0; i < WORDS.length(); i++) {
                char c = WORDS.charAt(i);
                if (c != ' ') {
                    same = same >= from && same < to && bytes[same] == c ? same + 1 : -1;
                } else if (same == to) {
                    return word;
                } else {
                    word++;
                    same = from;
                }
            }
            return WRONG;
        }

        private int numberAt(int from) {
            int n = 0;
            for (int i = from; i < endOf(from); i++) {
                n = n * 10 + bytes[i] - '0';
            }
            return n;
        }

        /** Goes on to the next token; END stays. */
        private void pass() {
            if (at < tokens - 1) {
                at++;
            }
            sight = token[at];
        }

        private boolean passes(int wanted) {
            if (sight != wanted) {
                return false;
            }
            pass();
            return true;
        }

        private boolean readRule() {
            int kind = sight - FIRST_KIND;
            if (!Kinds.isKind(kind)) {
                return false;
            }
            pass();
            if (passes(IF) && !readCondition(0)) {
                return false;
            }
            int will = sight - FIRST_WILL;
            if (will < RELIEVE || will > SMOKE) {
                return false;
            }
            pass();
            spare.addRule(kind, will);
            return passes(';');
        }

        /** COND, within as many "(" as are open. */
        private boolean readCondition(int open) {
            if (!readAll(open)) {
                return false;
            }
            for (int i = 0; i < MOST && passes(OR); i++) {
                if (!readAll(open)) {
                    return false;
                }
                spare.addStep(Rules.OR, 0, 0);
            }
            return true;
        }

        private boolean readAll(int open) {
            if (!readOne(open)) {
                return false;
            }
            for (int i = 0; i < MOST && passes(AND); i++) {
                if (!readOne(open)) {
                    return false;
                }
                spare.addStep(Rules.AND, 0, 0);
            }
            return true;
        }

        private boolean readOne(int open) {
            boolean turned = false;
            for (int i = 0; i < MOST && passes(NOT); i++) {
                turned = !turned;
            }
            boolean isRight;
            if (open < MOST_OPEN && passes('(')) {
                isRight = readCondition(open + 1) && passes(')');
            } else {
                isRight = readComparison();
            }
            if (isRight && turned) {
                spare.addStep(Rules.NOT, 0, 0);
            }
            return isRight;
        }

        private boolean readComparison() {
            int left = placeOfValue();
            if (left == NONE) {
                return false;
            }
            pass();
            int sort = sight - '<' + Rules.LESS;
            if (sort < Rules.LESS || sort > Rules.MORE) {
                return false;
            }
            pass();
            int right = placeOfValue();
            if (right == NONE) {
                return false;
            }
            pass();
            spare.addStep(sort, left, right);
            return true;
        }

        /** The place of the VALUE in sight among the values of THE RULES; NONE, if it is none. */
        private int placeOfValue() {
            if (sight == NUMBER) {
                return spare.addNumber(number[at]);
            }
            int fact = sight - FIRST_FACT;
            return fact >= 0 && fact < Rules.FACTS ? fact : NONE;
        }
    }

    /** All PLANS tried out in order, and the GAME. */
    private static final class Plans {
        /** How it is behind so many BELLS of the PLAN that is being tried. */
        private final Moment[] behind = new Moment[MOST_PLAN + 1];
        private final int[] acts = new int[MOST_PLAN];
        private int wanted = 0;

        int length = 0;
        int worth = 0;
        int ways = 0;
        final int[] first = new int[MOST_PLAN];
        int fewest = NONE;
        int reached = 0;
        int opening = 0;

        Plans() {
            for (int i = 0; i <= MOST_PLAN; i++) {
                behind[i] = new Moment();
            }
        }

        private void start(Basin basin, int n) {
            length = Math.max(0, Math.min(Math.min(n, MOST_PLAN), basin.end - basin.now.bell));
            behind[0].become(basin.now);
        }

        /** Tries all PLANS of n; those behind which all of figures are RELIEVED count for fewest. */
        void tryAll(Basin basin, int n, int figures) {
            start(basin, n);
            wanted = figures;
            worth = 0;
            ways = 0;
            fewest = NONE;
            reached = 0;
            tryFrom(basin, 0, 0, 0);
        }

        private void tryFrom(Basin basin, int depth, int worthYet, int toldYet) {
            if (depth >= length || depth >= MOST_PLAN) {
                noteWorth(worthYet);
                noteRelieved(behind[length].relieved, toldYet);
                return;
            }
            for (int act = 0; act <= basin.count; act++) {
                acts[depth] = act;
                Moment m = behind[depth + 1];
                m.become(behind[depth]);
                int more = basin.goBy(m, act);
                tryFrom(basin, depth + 1, worthYet + more, act == 0 ? toldYet : toldYet + 1);
            }
        }

        /** PLANS come by their lesser ACTS first, so the FIRST of the BEST is the one that is met first. */
        private void noteWorth(int worthOfPlan) {
            if (ways == 0 || worthOfPlan > worth) {
                worth = worthOfPlan;
                ways = 1;
                System.arraycopy(acts, 0, first, 0, MOST_PLAN);
            } else if (worthOfPlan == worth) {
                ways++;
            }
        }

        private void noteRelieved(int relieved, int told) {
            reached |= relieved;
            if ((wanted & ~relieved) == 0 && (fewest == NONE || told < fewest)) {
                fewest = told;
            }
        }

        int valueOfGame(Basin basin, int n) {
            start(basin, n);
            opening = 0;
            return valueFrom(basin, 0);
        }

        private int valueFrom(Basin basin, int depth) {
            if (depth >= length || depth >= MOST_PLAN) {
                return 0;
            }
            boolean wantsMuch = depth % 2 == 0;
            int value = 0;
            for (int act = 0; act <= basin.count; act++) {
                Moment m = behind[depth + 1];
                m.become(behind[depth]);
                int more = basin.goBy(m, act);
                int v = more + valueFrom(basin, depth + 1);
                if (act == 0 || (wantsMuch ? v > value : v < value)) {
                    value = v;
                    if (depth == 0) {
                        opening = act;
                    }
                }
            }
            return value;
        }
    }

    /** REPORTS, and which LONE NYMPHS FIT them. */
    private static final class Reports {
        private static final int MOST = 6;

        int count = 0;
        private final int[] bells = new int[MOST];
        private final int[] asked = new int[MOST];
        private final int[] least = new int[MOST];
        private final int[] most = new int[MOST];

        int fits = 0;
        int fitKind = 0;
        int fitGrace = 0;
        int fitTired = 0;
        int liar = NONE;

        void become(Reports other) {
            count = other.count;
            System.arraycopy(other.bells, 0, bells, 0, MOST);
            System.arraycopy(other.asked, 0, asked, 0, MOST);
            System.arraycopy(other.least, 0, least, 0, MOST);
            System.arraycopy(other.most, 0, most, 0, MOST);
        }

        int add(int k, int what, int from, int to) {
            if (count >= MOST) {
                return FULL;
            }
            bells[count] = k;
            asked[count] = what;
            least[count] = from;
            most[count] = to;
            count++;
            return count - 1;
        }

        /** Tries all LONE NYMPHS, the least first. */
        void tryAll(Basin basin) {
            fits = 0;
            liar = NONE;
            for (int kind = Kinds.MARBLE; kind <= Kinds.DREAMER; kind++) {
                for (int grace = 0; grace <= MOST_GRACE; grace++) {
                    for (int tired = 0; tired <= 90; tired += 10) {
                        tryOne(basin, kind, grace, tired);
                    }
                }
            }
        }

        private void tryOne(Basin basin, int kind, int grace, int tired) {
            int wrong = wrongBy(basin, kind, grace, tired);
            if (wrong == 0) {
                if (fits == 0) {
                    fitKind = kind;
                    fitGrace = grace;
                    fitTired = tired;
                }
                fits++;
            }
            for (int r = 0; r < count; r++) {
                if (wrong == 1 << r && (liar == NONE || r < liar)) {
                    liar = r;
                }
            }
        }

        /** The REPORTS, as a set, that aren't so by a LONE NYMPH; END ends nothing here. */
        private int wrongBy(Basin basin, int kind, int grace, int atFirst) {
            int wrong = 0;
            int tired = atFirst;
            int shown = 0;
            for (int bell = 0; bell < BELLS; bell++) {
                wrong |= wrongBehind(bell, tired, shown);
                if (tired < FAINT) {
                    shown += Kinds.shows(kind, grace, basin.guestsOf(bell), 0);
                }
                tired = Math.min(MOST_TIRED, tired + Kinds.wearies(kind, basin.sunOf(bell), bell));
            }
            return wrong;
        }

        private int wrongBehind(int bell, int tired, int shown) {
            int wrong = 0;
            for (int r = 0; r < count; r++) {
                int was = asked[r] == 0 ? tired : shown;
                if (bells[r] == bell && (was < least[r] || was > most[r])) {
                    wrong |= 1 << r;
                }
            }
            return wrong;
        }
    }

    /** An ACT of a thing, as it runs: each KIND's bodies, with those above them as super. */
    private static final class Acting {
        private static final int MOST = 30;

        final int[] trace = new int[MOST];
        int count = 0;
        /** Once parted by 0, what still goes on counts not. */
        boolean isParted = false;
        private int kind = 0;
        private int number = 0;
        private int niche = 0;

        void clear() {
            count = 0;
            isParted = false;
        }

        void begin(int ofKind, int itsNumber, int itsNiche) {
            kind = ofKind;
            number = itsNumber;
            niche = itsNiche;
        }

        private void ran(int body) {
            if (!isParted && count < MOST) {
                trace[count] = body;
                count++;
            }
        }

        int poses(int x) {
            switch (kind) {
                case Kinds.MARBLE:
                    ran(20);
                    return figurePoses(x) ^ 7;
                case Kinds.MATRON:
                    ran(50);
                    return figurePoses(x + 8);
                default:
                    return figurePoses(x);
            }
        }

        int drips(int x) {
            switch (kind) {
                case Kinds.GIRL:
                case Kinds.MATRON:
                    ran(30);
                    return figureDrips(x) * 3;
                case Kinds.DREAMER:
                    ran(60);
                    return 0 - figureDrips(x);
                default:
                    return figureDrips(x);
            }
        }

        int glances(int x) {
            switch (kind) {
                case Kinds.NOVICE:
                    return noviceGlances(x);
                case Kinds.DREAMER:
                    ran(61);
                    return noviceGlances(x) ^ poses(number);
                default:
                    return figureGlances(x);
            }
        }

        int leaves(int x) {
            if (kind == Kinds.MATRON) {
                ran(51);
                return figureLeaves(x) + drips(niche);
            }
            return figureLeaves(x);
        }

        private int figurePoses(int x) {
            ran(10);
            return x * 3 + number;
        }

        private int figureDrips(int x) {
            ran(11);
            return poses(x) - 2 * niche;
        }

        private int figureGlances(int x) {
            ran(12);
            int parts = number - niche + 3;
            if (parts == 0) {
                isParted = true;
                return 0;
            }
            return x / parts;
        }

        private int noviceGlances(int x) {
            ran(40);
            return figureGlances(x) - 1;
        }

        private int figureLeaves(int x) {
            ran(13);
            return drips(x) - glances(x);
        }
    }

    /** A row of items of one sort, or none. Each is held as the int that it is taken for. */
    private static final class Sheet {
        static final int MOST = 40;
        static final int MISSING = -1;
        static final int BYTES = 0;
        static final int SHORTS = 1;
        static final int BOOLEANS = 4;

        int sort = MISSING;
        int length = 0;
        final int[] items = new int[MOST];

        static boolean isSort(int sort) {
            return sort >= BYTES && sort <= BOOLEANS;
        }

        void becomeRow(int ofSort, int n) {
            sort = ofSort;
            length = n;
            Arrays.fill(items, 0);
        }

        boolean has(int i) {
            return i >= 0 && i < length && i < MOST;
        }

        /** Why it can't be taken for a sort; 0, if it can. */
        int refusalAs(int wanted) {
            if (sort == MISSING) {
                return NOTHING_THERE;
            }
            return sort == wanted ? 0 : OTHER_SORT;
        }

        /** v in the sort; a long's lowest 32 bits are v as it came. */
        int narrowed(int v) {
            switch (sort) {
                case BYTES: return (byte) v;
                case SHORTS: return (short) v;
                case BOOLEANS: return v != 0 ? 1 : 0;
                default: return v;
            }
        }
    }

    /** Holds a FIGURE by its number, or a row, which stays held when its SHEET becomes another one. */
    private static final class Shelf {
        int figure = NONE;
        int sort = Sheet.MISSING;
        int length = 0;

        void holdNothing() {
            holdRow(Sheet.MISSING, 0);
        }

        void holdFigure(int k) {
            holdNothing();
            figure = k;
        }

        void holdRow(int ofSort, int n) {
            figure = NONE;
            sort = ofSort;
            length = n;
        }

        boolean isRow() {
            return sort != Sheet.MISSING;
        }
    }
}
