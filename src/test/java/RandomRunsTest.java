import java.lang.reflect.Method;
import java.util.ArrayList;
import java.util.Arrays;
import java.util.List;
import java.util.Random;

/** Random runs of calls, each answered by NymphRota and by Model alike. The same seeds each time. */
final class RandomRunsTest {
    /** A call, how often it comes, and from where to where its arguments mostly are. */
    private static final String[] CALLS = {
        "figure 8 1 5 0 70 0 9 0 5", "figureOf 8 0 5 0 9", "change 6 0 5 1 4 0 9", "change 3 0 5 1 1 0 99",
        "remake 2 0 5 1 5", "weather 3 0 15 0 15", "niche 3 0 5 0 1 0 9", "nicheOf 1 0 5 0 1", "ends 1 1 16",
        "anew 1", "state 6 0 6", "feed 1 0 255 1 8", "rules 1", "bell 4", "on 3 0 16", "when 3 0 5",
        "graceFor 2 0 5", "nicheFor 2 0 5", "faints 3 0 5", "rank 3 0 5", "rings 3 -1 5", "way 3 0 5 0 5 0 9",
        "best 2 0 4", "ith 2 0 4 0 3", "ways 2 0 4", "roster 2 0 4 0 63", "bars 2 0 4 0 63", "game 1 1 4",
        "play 1 1 4", "report 3 0 15 0 0 0 99 0 99", "report 2 0 15 1 1 0 30 0 99", "forget 1", "nymph 2 0 3",
        "liar 2", "seed 1 -99 99", "lot 2", "times 2 1 40 0 300", "prove 2 0 4", "row 3 0 3 0 2",
        "alterRow 1 0 3 0 2 0 50", "judge 3", "sheet 3 0 3 -1 4 0 40", "sheet 2 0 1 0 0 0 40", "write 8 0 3 0 20 0 7",
        "write 2 0 3 0 39 -40000 40000", "item 3 0 3 0 4 0 20", "goAll 1 0 1 0 10 0 5", "wouldBe 2 0 1 0 10 0 5",
        "shelf 4 0 3 0 2 0 5", "taken 4 0 3 0 14", "act 8 0 3 0 3 -20 20", "trace 4 0 12", "many 3 0 6",
        "keep 1", "again 1"
    };
    private static final String[] WORDS = {
        "figure", "marble", "girl", "matron", "novice", "dreamer", "relieve", "keep", "smoke", "if", "and", "or", "not",
        "bell", "tired", "grace", "guests", "number", "0", "3", "20", "9999", "12345", "(", ")", "<", "=", ">", ";", " ", "A"
    };

    private final Random random;
    private final NymphRota rota = new NymphRota();
    private final Model model = new Model();
    private final List<String> told = new ArrayList<>();

    private RandomRunsTest(long seed) {
        random = new Random(seed);
    }

    private int number(int least, int most) {
        switch (random.nextInt(40)) {
            case 0: return least - 1;
            case 1: return most + 1;
            case 2: return random.nextBoolean() ? Integer.MIN_VALUE : Integer.MAX_VALUE;
            case 3: return random.nextInt();
            default: return least + random.nextInt(most - least + 1);
        }
    }

    private boolean same(String name, Object... args) throws ReflectiveOperationException {
        Class<?>[] types = new Class<?>[args.length];
        for (int i = 0; i < args.length; i++) {
            types[i] = args[i] instanceof Long ? long.class : int.class;
        }
        Method real = NymphRota.class.getMethod(name, types);
        Method due = Model.class.getDeclaredMethod(name, types);
        int got = (Integer) real.invoke(rota, args);
        int want = (Integer) due.invoke(model, args);
        told.add(name + Arrays.toString(args) + " " + got);
        if (got != want) {
            System.out.println("not as due (" + want + "): " + told);
        }
        return got == want;
    }

    private String value() {
        return random.nextInt(3) == 0 ? "" + random.nextInt(60) : Model.FACTS.get(random.nextInt(5));
    }

    private String condition(int open) {
        StringBuilder text = new StringBuilder();
        do {
            if (text.length() > 0) {
                text.append(random.nextBoolean() ? " and " : " or ");
            }
            while (random.nextInt(4) == 0) {
                text.append("not ");
            }
            if (open < 4 && random.nextInt(4) == 0) {
                text.append('(').append(condition(open + 1)).append(')');
            } else {
                text.append(value()).append("<=>".charAt(random.nextInt(3))).append(value());
            }
        } while (random.nextInt(2) == 0);
        return text.toString();
    }

    private String text() {
        StringBuilder text = new StringBuilder();
        int rules = random.nextInt(5) == 0 ? 9 : random.nextInt(5);
        for (int i = 0; i < rules; i++) {
            text.append(Model.KINDS.get(random.nextInt(6))).append(' ');
            if (random.nextInt(rules > 4 ? 9 : 2) != 0 && rules <= 4) {
                text.append("if ").append(condition(0)).append(' ');
            }
            text.append(Model.WILLS.get(random.nextInt(3))).append(random.nextBoolean() ? ";" : " ; ");
        }
        for (int i = random.nextInt(6) - 3; i > 0 && text.length() > 0; i--) {
            int at = random.nextInt(text.length());
            int to = Math.min(text.length(), at + random.nextInt(4));
            text.replace(at, to, random.nextBoolean() ? WORDS[random.nextInt(WORDS.length)] : "" + (char) random.nextInt(256));
        }
        return text.toString();
    }

    private boolean sameText() throws ReflectiveOperationException {
        String text = text();
        told.add("text: " + text);
        for (int i = 0; i < text.length(); i += 8) {
            int n = Math.min(8, text.length() - i);
            long eight = random.nextInt();
            for (int j = n - 1; j >= 0; j--) {
                eight = eight << 8 | text.charAt(i + j);
            }
            if (!same("feed", eight, n)) {
                return false;
            }
        }
        return same("rules");
    }

    private boolean sameCall(String[] call) throws ReflectiveOperationException {
        if (call[0].equals("report") && random.nextBoolean()) {
            int least = random.nextInt(40);
            return same("report", random.nextInt(16), random.nextInt(2), least, least + random.nextInt(40));
        }
        Object[] args = new Object[call.length / 2 - 1];
        for (int i = 0; i < args.length; i++) {
            args[i] = number(Integer.parseInt(call[2 + 2 * i]), Integer.parseInt(call[3 + 2 * i]));
        }
        if (call[0].equals("feed")) {
            args[0] = random.nextLong();
        }
        return same(call[0], args);
    }

    private boolean isSame(int calls) throws ReflectiveOperationException {
        int figures = random.nextInt(7);
        for (int k = 0; k < figures; k++) {
            if (!same("figure", 1 + random.nextInt(5), random.nextInt(70), random.nextInt(10), random.nextInt(6))) {
                return false;
            }
        }
        List<String[]> all = new ArrayList<>();
        for (String call : CALLS) {
            String[] parts = call.split(" ");
            for (int i = 0; i < Integer.parseInt(parts[1]); i++) {
                all.add(parts);
            }
        }
        for (int i = 0; i < calls; i++) {
            boolean same = random.nextInt(40) == 0 ? sameText() : sameCall(all.get(random.nextInt(all.size())));
            if (!same) {
                return false;
            }
        }
        return true;
    }

    public static void main(String[] args) throws ReflectiveOperationException {
        int runs = args.length > 0 ? Integer.parseInt(args[0]) : 150;
        long first = args.length > 1 ? Long.parseLong(args[1]) : 0;
        int wrong = 0;
        for (int run = 0; run < runs && wrong < 5; run++) {
            if (!new RandomRunsTest(first + run).isSame(200)) {
                wrong++;
            }
        }
        System.out.println("random runs: " + runs + ", not alike: " + wrong);
        if (wrong != 0) {
            System.exit(1);
        }
    }
}
