import java.util.ArrayList;
import java.util.List;
import java.util.function.ToIntFunction;

/** The document told once more, in another way and slowly (objects, exceptions, whole copies), to compare with. */
final class Model {
    static final int BAD = -1, FULL = -2, NONE = -3, STATE = -4;

    // ---- figures, as a tree of classes

    abstract static class Figure implements Cloneable {
        int number, tired, grace, niche;
        boolean relieved;

        abstract int kind();

        boolean up() {
            return !relieved && tired < 60;
        }

        int rawWearies(int sun, int bell) {
            return 3 + 4 * sun;
        }

        int rawShows(int guests) {
            return guests;
        }

        int pays() {
            return up() ? Math.max(0, 10 + grace - tired / 8) : 0;
        }

        int poses(List<Integer> trace, int x) {
            trace.add(10);
            return x * 3 + number;
        }

        int drips(List<Integer> trace, int x) {
            trace.add(11);
            return poses(trace, x) - 2 * niche;
        }

        int glances(List<Integer> trace, int x) {
            trace.add(12);
            return x / (number - niche + 3);
        }

        int leaves(List<Integer> trace, int x) {
            trace.add(13);
            return drips(trace, x) - glances(trace, x);
        }

        Figure copy() {
            try {
                return (Figure) clone();
            } catch (CloneNotSupportedException e) {
                throw new IllegalStateException(e);
            }
        }

        static Figure of(int kind) {
            switch (kind) {
                case 1: return new Marble();
                case 2: return new Girl();
                case 3: return new Matron();
                case 4: return new Novice();
                case 5: return new Dreamer();
                default: throw new Refusal(BAD);
            }
        }
    }

    static class Marble extends Figure {
        int kind() { return 1; }
        int rawWearies(int sun, int bell) { return 1; }
        int rawShows(int guests) { return Math.min(1, guests); }
        int poses(List<Integer> trace, int x) { trace.add(20); return super.poses(trace, x) ^ 7; }
    }

    static class Girl extends Figure {
        int kind() { return 2; }
        int rawWearies(int sun, int bell) { return super.rawWearies(sun, bell) + bell / 4; }
        int rawShows(int guests) { return super.rawShows(guests) + grace / 3; }
        int drips(List<Integer> trace, int x) { trace.add(30); return super.drips(trace, x) * 3; }
    }

    static class Matron extends Girl {
        int kind() { return 3; }
        int rawWearies(int sun, int bell) { return Math.max(0, super.rawWearies(sun, bell) - 5); }
        int rawShows(int guests) { return Math.max(0, super.rawShows(guests) - 1); }
        int poses(List<Integer> trace, int x) { trace.add(50); return super.poses(trace, x + 8); }
        int leaves(List<Integer> trace, int x) {
            trace.add(51);
            return super.leaves(trace, x) + drips(trace, niche);
        }
    }

    static class Novice extends Figure {
        int kind() { return 4; }
        int rawWearies(int sun, int bell) { return 2 * super.rawWearies(sun, bell); }
        int rawShows(int guests) { return 2 * super.rawShows(guests); }
        int glances(List<Integer> trace, int x) { trace.add(40); return super.glances(trace, x) - 1; }
    }

    static class Dreamer extends Novice {
        int kind() { return 5; }
        int rawWearies(int sun, int bell) { return bell % 2 == 1 ? 0 : super.rawWearies(sun, bell); }
        int rawShows(int guests) { return super.rawShows(guests) + number; }
        int drips(List<Integer> trace, int x) { trace.add(60); return 0 - super.drips(trace, x); }
        int glances(List<Integer> trace, int x) {
            trace.add(61);
            return super.glances(trace, x) ^ poses(trace, number);
        }
    }

    static Class<?> classOf(int kind) {
        return new Class<?>[] {Figure.class, Marble.class, Girl.class, Matron.class, Novice.class, Dreamer.class}[kind];
    }

    @SuppressWarnings("serial")
    static final class Refusal extends RuntimeException {
        final int answer;

        Refusal(int answer) {
            super(null, null, false, false);
            this.answer = answer;
        }
    }

    static void must(boolean so, int elseAnswer) {
        if (!so) {
            throw new Refusal(elseAnswer);
        }
    }

    static void within(int v, int least, int most) {
        must(v >= least && v <= most, BAD);
    }

    // ---- rules

    /** No byte. */
    static final char END = 256;

    /** A piece of a text: sort 'n' NAME, '9' NUMBER, else a byte; or END. */
    record Piece(char sort, String text, int place) { }

    interface Condition {
        boolean holds(int[] facts);
    }

    record Rule(int kind, Condition condition, int will) { }

    record Report(int k, int asked, int least, int most) { }

    static final List<String> KINDS = List.of("figure", "marble", "girl", "matron", "novice", "dreamer");
    static final List<String> WILLS = List.of("relieve", "keep", "smoke");
    static final List<String> FACTS = List.of("bell", "tired", "grace", "guests", "number");

    static List<Piece> pieces(byte[] bytes) {
        List<Piece> all = new ArrayList<>();
        StringBuilder text = new StringBuilder();
        for (byte b : bytes) {
            text.append((char) (b & 255));
        }
        java.util.regex.Matcher m = java.util.regex.Pattern.compile("[a-z]+|[0-9]+|[^ ]", java.util.regex.Pattern.DOTALL)
                .matcher(text);
        while (m.find()) {
            char c = m.group().charAt(0);
            all.add(new Piece(c >= 'a' && c <= 'z' ? 'n' : c >= '0' && c <= '9' ? '9' : c, m.group(), m.start()));
        }
        all.add(new Piece(END, "", bytes.length));
        return all;
    }

    /** First the FAULT is looked for, by what may stand behind what; -1, if there is none. */
    static int fault(List<Piece> pieces) {
        String may = "rule";
        int open = 0;
        int rules = 0;
        for (Piece p : pieces) {
            String next = null;
            boolean name = p.sort == 'n';
            boolean value = (name && FACTS.contains(p.text)) || (p.sort == '9' && p.text.length() <= 4);
            switch (may) {
                case "rule":
                    if (p.sort == END) {
                        return -1;
                    }
                    if (name && KINDS.contains(p.text) && rules < 8) {
                        rules++;
                        next = "if or do";
                    }
                    break;
                case "if or do":
                    next = p.text.equals("if") ? "one" : name && WILLS.contains(p.text) ? "end" : null;
                    break;
                case "one":
                    if (p.text.equals("not")) {
                        next = "one";
                    } else if (p.sort == '(' && open < 3) {
                        open++;
                        next = "one";
                    } else if (value) {
                        next = "sign";
                    }
                    break;
                case "sign":
                    next = p.text.equals("<") || p.text.equals("=") || p.text.equals(">") ? "value" : null;
                    break;
                case "value":
                    next = value ? "joined" : null;
                    break;
                case "joined":
                    if (p.text.equals("and") || p.text.equals("or")) {
                        next = "one";
                    } else if (p.sort == ')' && open > 0) {
                        open--;
                        next = "joined";
                    } else if (name && WILLS.contains(p.text) && open == 0) {
                        next = "end";
                    }
                    break;
                default:
                    next = p.sort == ';' ? "rule" : null;
                    break;
            }
            if (next == null) {
                return p.place;
            }
            may = next;
        }
        throw new IllegalStateException("the end stands nowhere");
    }

    /** A right text is then cut at its joints. */
    static List<Rule> rulesOf(List<Piece> pieces) {
        List<Rule> rules = new ArrayList<>();
        int from = 0;
        for (int i = 0; i < pieces.size(); i++) {
            if (pieces.get(i).sort == ';') {
                List<Piece> one = pieces.subList(from, i);
                Condition condition = one.size() == 2 ? facts -> true : condition(one.subList(2, one.size() - 1));
                rules.add(new Rule(KINDS.indexOf(one.get(0).text), condition, WILLS.indexOf(one.get(one.size() - 1).text)));
                from = i + 1;
            }
        }
        return rules;
    }

    /** Where the last such NAME stands outside all "("; -1, if none does. */
    static int lastOutside(List<Piece> pieces, String name) {
        int open = 0;
        int last = -1;
        for (int i = 0; i < pieces.size(); i++) {
            open += pieces.get(i).sort == '(' ? 1 : pieces.get(i).sort == ')' ? -1 : 0;
            if (open == 0 && pieces.get(i).text.equals(name)) {
                last = i;
            }
        }
        return last;
    }

    static Condition condition(List<Piece> pieces) {
        int or = lastOutside(pieces, "or");
        if (or >= 0) {
            Condition a = condition(pieces.subList(0, or));
            Condition b = condition(pieces.subList(or + 1, pieces.size()));
            return facts -> a.holds(facts) || b.holds(facts);
        }
        int and = lastOutside(pieces, "and");
        if (and >= 0) {
            Condition a = condition(pieces.subList(0, and));
            Condition b = condition(pieces.subList(and + 1, pieces.size()));
            return facts -> a.holds(facts) && b.holds(facts);
        }
        if (pieces.get(0).text.equals("not")) {
            Condition a = condition(pieces.subList(1, pieces.size()));
            return facts -> !a.holds(facts);
        }
        if (pieces.get(0).sort == '(') {
            return condition(pieces.subList(1, pieces.size() - 1));
        }
        ToIntFunction<int[]> a = value(pieces.get(0));
        ToIntFunction<int[]> b = value(pieces.get(2));
        switch (pieces.get(1).sort) {
            case '<': return facts -> a.applyAsInt(facts) < b.applyAsInt(facts);
            case '=': return facts -> a.applyAsInt(facts) == b.applyAsInt(facts);
            default: return facts -> a.applyAsInt(facts) > b.applyAsInt(facts);
        }
    }

    static ToIntFunction<int[]> value(Piece piece) {
        if (piece.sort == '9') {
            int n = Integer.parseInt(piece.text);
            return facts -> n;
        }
        int i = FACTS.indexOf(piece.text);
        return facts -> facts[i];
    }

    // ---- the basin

    static final class World {
        List<Figure> figures = new ArrayList<>();
        int[] weather = new int[17];
        int[] shade = new int[6];
        int[] wet = new int[6];
        int bell, end = 12, score, z = 1;
        List<Rule> rules = new ArrayList<>();
        List<Report> reports = new ArrayList<>();

        World() {
            java.util.Arrays.fill(weather, 0, 16, 5);
        }

        World copy() {
            World w = new World();
            for (Figure f : figures) {
                w.figures.add(f.copy());
            }
            w.weather = weather.clone();
            w.shade = shade.clone();
            w.wet = wet.clone();
            w.bell = bell;
            w.end = end;
            w.score = score;
            w.z = z;
            w.rules = new ArrayList<>(rules);
            w.reports = new ArrayList<>(reports);
            return w;
        }

        Figure get(int k) {
            must(k >= 0 && k < figures.size(), BAD);
            return figures.get(k);
        }

        boolean over() {
            return bell >= end;
        }

        int sun() {
            return weather[bell] >> 2;
        }

        int guests() {
            return weather[bell] & 3;
        }

        int wearies(Figure f) {
            return Math.max(0, f.rawWearies(sun(), bell) - shade[f.niche]);
        }

        int shows(Figure f) {
            return f.up() ? f.rawShows(guests()) : 0;
        }

        int will(Figure f) {
            int[] facts = {bell, f.tired, f.grace, guests(), f.number};
            for (Rule r : rules) {
                if (classOf(r.kind).isInstance(f) && r.condition.holds(facts)) {
                    return r.will;
                }
            }
            return 0;
        }

        boolean may(Figure f) {
            return will(f) == 0 && f.pays() > 0;
        }

        int relievedSet() {
            int set = 0;
            for (Figure f : figures) {
                set += f.relieved ? 1 << f.number : 0;
            }
            return set;
        }

        int upSet() {
            int set = 0;
            for (Figure f : figures) {
                set += f.up() ? 1 << f.number : 0;
            }
            return set;
        }

        boolean isAct(int act) {
            return act >= 0 && act <= figures.size();
        }

        int go(int act) {
            int worth = 0;
            Figure smokes = null;
            if (act > 0 && figures.get(act - 1).up()) {
                Figure f = figures.get(act - 1);
                int will = will(f);
                if (will == 0) {
                    int pays = f.pays();
                    worth += pays;
                    if (pays > 0) {
                        f.relieved = true;
                    }
                }
                if (will == 2) {
                    f.tired = Math.max(0, f.tired - 25);
                    smokes = f;
                }
            }
            for (Figure f : figures) {
                if (f != smokes) {
                    worth += shows(f);
                }
            }
            for (Figure f : figures) {
                if (f != smokes && !f.relieved) {
                    f.tired = Math.min(99, f.tired + wearies(f));
                }
            }
            bell++;
            score += worth;
            return worth;
        }

        int restAct() {
            for (Figure f : figures) {
                if (may(f)) {
                    return f.number + 1;
                }
            }
            return 0;
        }

        int rest() {
            World w = copy();
            int worth = 0;
            while (!w.over()) {
                worth += w.go(w.restAct());
            }
            return worth;
        }

        int lot() {
            z = z * 1103515245 + 12345;
            return go((z >>> 16) % (figures.size() + 1));
        }

        /** The set of REPORTS that aren't so by a LONE NYMPH. */
        boolean[] wrong(int kind, int grace, int tired) {
            boolean[] wrong = new boolean[reports.size()];
            for (int r = 0; r < wrong.length; r++) {
                World alone = new World();
                alone.weather = weather;
                Figure f = Figure.of(kind);
                f.grace = grace;
                f.tired = tired;
                alone.figures.add(f);
                int shown = 0;
                for (int i = 0; i < reports.get(r).k; i++) {
                    shown += alone.go(0);
                }
                int was = reports.get(r).asked == 0 ? f.tired : shown;
                wrong[r] = was < reports.get(r).least || was > reports.get(r).most;
            }
            return wrong;
        }
    }

    World now = new World();
    World kept;
    List<Byte> tape = new ArrayList<>();
    List<int[]> rows = new ArrayList<>();
    Object[] sheets = new Object[4];
    Object[] shelves = new Object[4];
    List<Integer> trace = new ArrayList<>();

    interface Call {
        int answer();
    }

    static int ask(Call call) {
        try {
            return call.answer();
        } catch (Refusal r) {
            return r.answer;
        }
    }

    int figure(int kind, int tired, int grace, int niche) {
        return ask(() -> {
            Figure f = Figure.of(kind);
            within(tired, 0, 99);
            within(grace, 0, 9);
            within(niche, 0, 5);
            must(now.figures.size() < 6, FULL);
            f.number = now.figures.size();
            f.tired = tired;
            f.grace = grace;
            f.niche = niche;
            now.figures.add(f);
            return f.number;
        });
    }

    int figureOf(int k, int what) {
        return ask(() -> {
            Figure f = now.get(k);
            within(what, 0, 9);
            int[] all = {f.kind(), f.tired, f.grace, f.niche, f.relieved ? 1 : 0,
                now.wearies(f), now.shows(f), f.pays(), now.may(f) ? 1 : 0, now.will(f)};
            return all[what];
        });
    }

    int change(int k, int what, int v) {
        return ask(() -> {
            Figure f = now.get(k);
            within(what, 1, 4);
            within(v, 0, new int[] {0, 99, 9, 5, 1}[what]);
            int was = figureOf(k, what);
            if (what == 1) {
                f.tired = v;
            } else if (what == 2) {
                f.grace = v;
            } else if (what == 3) {
                f.niche = v;
            } else {
                f.relieved = v == 1;
            }
            return was;
        });
    }

    int remake(int k, int kind) {
        return ask(() -> {
            Figure f = now.get(k);
            Figure other = Figure.of(kind);
            other.number = f.number;
            other.tired = f.tired;
            other.grace = f.grace;
            other.niche = f.niche;
            other.relieved = f.relieved;
            now.figures.set(k, other);
            return f.kind();
        });
    }

    int weather(int bell, int v) {
        return ask(() -> {
            within(bell, 0, 15);
            within(v, 0, 15);
            int was = now.weather[bell];
            now.weather[bell] = v;
            return was;
        });
    }

    int niche(int f, int what, int v) {
        return ask(() -> {
            within(f, 0, 5);
            within(what, 0, 1);
            within(v, 0, 9);
            int[] row = what == 0 ? now.shade : now.wet;
            int was = row[f];
            row[f] = v;
            return was;
        });
    }

    int nicheOf(int f, int what) {
        return ask(() -> {
            within(f, 0, 5);
            within(what, 0, 1);
            return (what == 0 ? now.shade : now.wet)[f];
        });
    }

    int ends(int v) {
        return ask(() -> {
            within(v, 1, 16);
            must(v >= now.bell, STATE);
            int was = now.end;
            now.end = v;
            return was;
        });
    }

    int anew() {
        int was = now.bell;
        now.bell = 0;
        now.score = 0;
        for (Figure f : now.figures) {
            f.relieved = false;
            f.tired = 0;
        }
        return was;
    }

    int state(int what) {
        return ask(() -> {
            within(what, 0, 6);
            return new int[] {now.bell, now.end, now.score, now.over() ? 1 : 0, now.relievedSet(),
                now.weather[now.bell], now.upSet()}[what];
        });
    }

    int feed(long eight, int n) {
        return ask(() -> {
            within(n, 1, 8);
            must(tape.size() + n <= 200, FULL);
            long left = eight;
            for (int i = 0; i < n; i++) {
                tape.add((byte) left);
                left >>= 8;
            }
            return tape.size();
        });
    }

    int rules() {
        byte[] bytes = new byte[tape.size()];
        for (int i = 0; i < bytes.length; i++) {
            bytes[i] = tape.get(i);
        }
        tape.clear();
        List<Piece> pieces = pieces(bytes);
        int fault = fault(pieces);
        if (fault >= 0) {
            return -100 - fault;
        }
        now.rules = rulesOf(pieces);
        return now.rules.size();
    }

    int bell() {
        return ask(() -> {
            must(!now.over(), STATE);
            return now.go(now.restAct());
        });
    }

    int on(int n) {
        return ask(() -> {
            within(n, 0, 16);
            World w = now.copy();
            int worth = 0;
            for (int i = 0; i < n && !w.over(); i++) {
                worth += w.go(w.restAct());
            }
            return worth;
        });
    }

    int when(int k) {
        return ask(() -> {
            must(!now.get(k).relieved, NONE);
            World w = now.copy();
            while (!w.over()) {
                w.go(w.restAct());
                if (w.get(k).relieved) {
                    return w.bell - 1;
                }
            }
            return NONE;
        });
    }

    int graceFor(int k) {
        return ask(() -> {
            now.get(k);
            int best = 0;
            int bestWorth = Integer.MIN_VALUE;
            for (int g = 9; g >= 0; g--) {
                World w = now.copy();
                w.get(k).grace = g;
                if (w.rest() >= bestWorth) {
                    bestWorth = w.rest();
                    best = g;
                }
            }
            return best;
        });
    }

    int nicheFor(int k) {
        return ask(() -> {
            now.get(k);
            int best = 0;
            int bestWorth = Integer.MIN_VALUE;
            for (int a = 5; a >= 0; a--) {
                World w = now.copy();
                w.get(k).niche = a;
                if (w.rest() >= bestWorth) {
                    bestWorth = w.rest();
                    best = a;
                }
            }
            return best;
        });
    }

    int faints(int k) {
        return ask(() -> {
            now.get(k);
            World w = now.copy();
            while (w.get(k).tired < 60) {
                must(!w.over(), NONE);
                w.go(w.restAct());
            }
            return w.bell;
        });
    }

    int rank(int k) {
        return ask(() -> {
            must(now.get(k).up(), NONE);
            List<Figure> up = new ArrayList<>(now.figures);
            up.removeIf(f -> !f.up());
            up.sort((a, b) -> a.tired != b.tired ? b.tired - a.tired : a.number - b.number);
            return up.indexOf(now.get(k));
        });
    }

    int rings(int what) {
        return ask(() -> {
            must(what >= -1, BAD);
            if (what >= 0) {
                now.get(what);
            }
            int n = now.figures.size();
            boolean[][] hang = new boolean[n][n];
            for (Figure a : now.figures) {
                for (Figure b : now.figures) {
                    hang[a.number][b.number] = a.up() && b.up()
                            && (a.niche == b.niche || (a.niche + 1) % 6 == b.niche || (b.niche + 1) % 6 == a.niche);
                }
            }
            for (int m = 0; m < n; m++) {
                for (int i = 0; i < n; i++) {
                    for (int j = 0; j < n; j++) {
                        hang[i][j] |= hang[i][m] && hang[m][j];
                    }
                }
            }
            java.util.Set<Integer> rings = new java.util.TreeSet<>();
            int own = 0;
            for (int i = 0; i < n; i++) {
                int ring = 0;
                for (int j = 0; j < n; j++) {
                    ring += hang[i][j] ? 1 << j : 0;
                }
                if (ring != 0) {
                    rings.add(ring);
                }
                own = i == what ? ring : own;
            }
            return what == -1 ? rings.size() : own;
        });
    }

    int way(int from, int to, int most) {
        return ask(() -> {
            within(from, 0, 5);
            within(to, 0, 5);
            within(most, 0, 9);
            int best = NONE;
            for (int by : new int[] {1, 5}) {
                int steps = 0;
                boolean dry = true;
                for (int at = from; at != to; steps++) {
                    at = (at + by) % 6;
                    dry &= now.wet[at] <= most;
                }
                if (dry && (best == NONE || steps < best)) {
                    best = steps;
                }
            }
            return best;
        });
    }

    /** All PLANS of n, in their order. */
    List<int[]> allPlans(int n) {
        int length = Math.min(n, now.end - now.bell);
        int acts = now.figures.size() + 1;
        int many = 1;
        for (int i = 0; i < length; i++) {
            many *= acts;
        }
        List<int[]> all = new ArrayList<>();
        for (int p = 0; p < many; p++) {
            int[] plan = new int[length];
            int left = p;
            for (int i = length - 1; i >= 0; i--) {
                plan[i] = left % acts;
                left /= acts;
            }
            all.add(plan);
        }
        return all;
    }

    World behind(int[] plan) {
        World w = now.copy();
        for (int act : plan) {
            w.go(act);
        }
        return w;
    }

    List<int[]> bestPlans(int n) {
        List<int[]> best = new ArrayList<>();
        int most = Integer.MIN_VALUE;
        for (int[] plan : allPlans(n)) {
            int worth = behind(plan).score;
            if (worth > most) {
                best.clear();
                most = worth;
            }
            if (worth == most) {
                best.add(plan);
            }
        }
        return best;
    }

    int best(int n) {
        return ask(() -> {
            within(n, 0, 4);
            return behind(bestPlans(n).get(0)).score - now.score;
        });
    }

    int ith(int n, int i) {
        return ask(() -> {
            within(n, 0, 4);
            within(i, 0, 3);
            int[] first = bestPlans(n).get(0);
            must(i < first.length, NONE);
            return first[i];
        });
    }

    int ways(int n) {
        return ask(() -> {
            within(n, 0, 4);
            return bestPlans(n).size();
        });
    }

    int roster(int n, int figures) {
        return ask(() -> {
            within(n, 0, 4);
            within(figures, 0, (1 << now.figures.size()) - 1);
            int fewest = 99;
            for (int[] plan : allPlans(n)) {
                if ((behind(plan).relievedSet() & figures) == figures) {
                    fewest = Math.min(fewest, (int) java.util.Arrays.stream(plan).filter(a -> a != 0).count());
                }
            }
            must(fewest < 99, NONE);
            return fewest;
        });
    }

    int bars(int n, int figures) {
        return ask(() -> {
            within(n, 0, 4);
            within(figures, 0, (1 << now.figures.size()) - 1);
            int reached = 0;
            for (int[] plan : allPlans(n)) {
                reached |= behind(plan).relievedSet();
            }
            for (int k = 0; k < 6; k++) {
                if ((figures >> k & 1) == 1 && (reached >> k & 1) == 0) {
                    return k;
                }
            }
            return NONE;
        });
    }

    static int gameValue(World w, int left, boolean much) {
        if (left == 0 || w.over()) {
            return 0;
        }
        List<Integer> values = gameValues(w, left, much);
        return much ? java.util.Collections.max(values) : java.util.Collections.min(values);
    }

    static List<Integer> gameValues(World w, int left, boolean much) {
        List<Integer> values = new ArrayList<>();
        for (int act = 0; act <= w.figures.size(); act++) {
            World next = w.copy();
            int worth = next.go(act);
            values.add(worth + gameValue(next, left - 1, !much));
        }
        return values;
    }

    int game(int n) {
        return ask(() -> {
            within(n, 1, 4);
            return gameValue(now, n, true);
        });
    }

    int play(int n) {
        return ask(() -> {
            within(n, 1, 4);
            must(!now.over(), NONE);
            List<Integer> values = gameValues(now, n, true);
            return values.indexOf(java.util.Collections.max(values));
        });
    }

    int report(int k, int asked, int least, int most) {
        return ask(() -> {
            within(k, 0, 15);
            within(asked, 0, 1);
            within(least, 0, asked == 0 ? 99 : 999);
            within(most, least, asked == 0 ? 99 : 999);
            must(now.reports.size() < 6, FULL);
            now.reports.add(new Report(k, asked, least, most));
            return now.reports.size() - 1;
        });
    }

    int forget() {
        int were = now.reports.size();
        now.reports.clear();
        return were;
    }

    List<int[]> fitting(World w) {
        List<int[]> fit = new ArrayList<>();
        for (int kind = 1; kind <= 5; kind++) {
            for (int grace = 0; grace <= 9; grace++) {
                for (int tired = 0; tired < 100; tired += 10) {
                    boolean all = true;
                    for (boolean wrong : w.wrong(kind, grace, tired)) {
                        all &= !wrong;
                    }
                    if (all) {
                        fit.add(new int[] {kind, grace, tired});
                    }
                }
            }
        }
        return fit;
    }

    int nymph(int what) {
        return ask(() -> {
            within(what, 0, 3);
            List<int[]> fit = fitting(now);
            if (what == 0) {
                return fit.size();
            }
            must(!fit.isEmpty(), NONE);
            return fit.get(0)[what - 1];
        });
    }

    int liar() {
        return ask(() -> {
            must(fitting(now).isEmpty(), NONE);
            for (int r = 0; r < now.reports.size(); r++) {
                World w = now.copy();
                w.reports.remove(r);
                if (!fitting(w).isEmpty()) {
                    return r;
                }
            }
            return NONE;
        });
    }

    int seed(int v) {
        int was = now.z;
        now.z = v;
        return was;
    }

    int lot() {
        return ask(() -> {
            must(!now.over(), STATE);
            return now.lot();
        });
    }

    int times(int n, int v) {
        return ask(() -> {
            within(n, 1, 40);
            within(v, 0, 999);
            int z = now.z;
            int times = 0;
            for (int i = 0; i < n; i++) {
                World w = now.copy();
                w.score = 0;
                w.z = z;
                while (!w.over()) {
                    w.lot();
                }
                z = w.z;
                times += w.score >= v ? 1 : 0;
            }
            return times;
        });
    }

    int prove(int n) {
        return ask(() -> {
            within(n, 0, 4);
            rows.clear();
            World w = now.copy();
            for (int act : bestPlans(n).get(0)) {
                int worth = w.go(act);
                rows.add(new int[] {act, worth, w.relievedSet()});
            }
            return rows.size();
        });
    }

    int row(int k, int what) {
        return ask(() -> {
            must(k >= 0 && k < rows.size() && what >= 0 && what <= 2, -9);
            return rows.get(k)[what];
        });
    }

    int alterRow(int k, int what, int v) {
        return ask(() -> {
            must(k >= 0 && k < rows.size() && what >= 0 && what <= 2, -9);
            int was = rows.get(k)[what];
            rows.get(k)[what] = v;
            return was;
        });
    }

    int judge() {
        World w = now.copy();
        for (int k = 0; k < rows.size(); k++) {
            int[] told = rows.get(k);
            if (w.over() || !w.isAct(told[0])) {
                return k + 1;
            }
            int worth = w.go(told[0]);
            if (worth != told[1] || w.relievedSet() != told[2]) {
                return k + 1;
            }
        }
        return 0;
    }

    int sheet(int sheet, int sort, int n) {
        return ask(() -> {
            within(sheet, 0, 3);
            within(sort, -1, 4);
            must(sort == -1 || n <= 40, BAD);
            must(sort == -1 || n >= 0, -14);
            Object row = null;
            switch (sort) {
                case 0: row = new byte[n]; break;
                case 1: row = new short[n]; break;
                case 2: row = new int[n]; break;
                case 3: row = new long[n]; break;
                case 4: row = new boolean[n]; break;
                default: break;
            }
            sheets[sheet] = row;
            return 1;
        });
    }

    static final Class<?>[] SORTS = {byte[].class, short[].class, int[].class, long[].class, boolean[].class};

    static int taken(Object row, int sort, int i) {
        must(row == null || SORTS[sort].isInstance(row), -13);
        must(row != null, -11);
        must(i >= 0 && i < java.lang.reflect.Array.getLength(row), -12);
        if (row instanceof boolean[]) {
            return ((boolean[]) row)[i] ? 1 : 0;
        }
        return (int) java.lang.reflect.Array.getLong(row, i);
    }

    int write(int sheet, int i, int v) {
        return ask(() -> {
            within(sheet, 0, 3);
            Object row = sheets[sheet];
            must(row != null, -11);
            must(i >= 0 && i < java.lang.reflect.Array.getLength(row), -12);
            if (row instanceof byte[]) {
                ((byte[]) row)[i] = (byte) v;
            } else if (row instanceof short[]) {
                ((short[]) row)[i] = (short) v;
            } else if (row instanceof int[]) {
                ((int[]) row)[i] = v;
            } else if (row instanceof long[]) {
                ((long[]) row)[i] = v;
            } else {
                ((boolean[]) row)[i] = v != 0;
            }
            return 1;
        });
    }

    int item(int sheet, int sort, int i) {
        return ask(() -> {
            within(sheet, 0, 3);
            within(sort, 0, 4);
            return taken(sheets[sheet], sort, i);
        });
    }

    void mayBeActs(int sheet, int n) {
        within(sheet, 0, 3);
        within(n, 0, 20);
        must(sheets[sheet] == null || sheets[sheet] instanceof byte[], -13);
        must(sheets[sheet] != null, -11);
    }

    int goAll(int sheet, int i, int n) {
        return ask(() -> {
            mayBeActs(sheet, n);
            int worth = 0;
            for (int j = 0; j < n; j++) {
                int act = taken(sheets[sheet], 0, i + j);
                if (now.isAct(act) && !now.over()) {
                    worth += now.go(act);
                }
            }
            return worth;
        });
    }

    int wouldBe(int sheet, int i, int n) {
        return ask(() -> {
            mayBeActs(sheet, n);
            World w = now.copy();
            int worth = 0;
            for (int j = 0; j < n; j++) {
                int act = taken(sheets[sheet], 0, i + j);
                must(w.isAct(act) && !w.over(), STATE);
                worth += w.go(act);
            }
            return worth;
        });
    }

    int shelf(int shelf, int what, int n) {
        return ask(() -> {
            within(shelf, 0, 3);
            within(what, 0, 2);
            if (what == 0) {
                now.get(n);
                shelves[shelf] = n;
            } else if (what == 1) {
                within(n, 0, 3);
                shelves[shelf] = sheets[n];
            } else {
                shelves[shelf] = null;
            }
            return 1;
        });
    }

    Object thing(int shelf) {
        if (shelves[shelf] instanceof Integer) {
            int k = (Integer) shelves[shelf];
            return k < now.figures.size() ? now.figures.get(k) : null;
        }
        return shelves[shelf];
    }

    int taken(int shelf, int as) {
        return ask(() -> {
            within(shelf, 0, 3);
            must((as >= 0 && as <= 5) || (as >= 10 && as <= 14), BAD);
            Object thing = thing(shelf);
            Class<?> wanted = as <= 5 ? classOf(as) : SORTS[as - 10];
            must(thing == null || wanted.isInstance(thing), -13);
            must(thing != null, -11);
            return as <= 5 ? ((Figure) thing).number : java.lang.reflect.Array.getLength(thing);
        });
    }

    int act(int shelf, int act, int x) {
        trace = new ArrayList<>();
        if (shelf < 0 || shelf > 3 || act < 0 || act > 3 || !(thing(shelf) instanceof Figure)) {
            return 0;
        }
        Figure f = (Figure) thing(shelf);
        try {
            switch (act) {
                case 0: return f.poses(trace, x);
                case 1: return f.drips(trace, x);
                case 2: return f.glances(trace, x);
                default: return f.leaves(trace, x);
            }
        } catch (ArithmeticException e) {
            return -15;
        }
    }

    int trace(int i) {
        return i >= 0 && i < Math.min(30, trace.size()) ? trace.get(i) : NONE;
    }

    int many(int what) {
        return ask(() -> {
            within(what, 0, 6);
            return new int[] {now.figures.size(), now.rules.size(), Integer.bitCount(now.relievedSet()),
                now.reports.size(), rows.size(), tape.size(), Math.min(30, trace.size())}[what];
        });
    }

    int keep() {
        kept = now.copy();
        return 1;
    }

    int again() {
        return ask(() -> {
            must(kept != null, NONE);
            now = kept.copy();
            return now.figures.size();
        });
    }
}
