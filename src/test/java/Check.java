import java.util.TreeMap;

/** Counts what is as due, by promise. */
final class Check {
    private final TreeMap<Integer, Integer> right = new TreeMap<>();
    private int promise;
    private int wrong;

    /** What follows is of this promise. */
    void promise(int number) {
        promise = number;
    }

    void due(String what, int got, int want) {
        if (got == want) {
            right.merge(promise, 1, Integer::sum);
        } else {
            wrong++;
            System.out.println("promise " + promise + ": " + what + " answered " + got + ", due is " + want);
        }
    }

    /** Whether all was as due, and something was asked of each promise. */
    boolean isRight(int promises) {
        for (int p = 1; p <= promises; p++) {
            if (!right.containsKey(p)) {
                wrong++;
                System.out.println("promise " + p + " has no test");
            }
        }
        int all = right.values().stream().mapToInt(Integer::intValue).sum();
        System.out.println("promises: " + all + " answers as due, " + wrong + " not");
        return wrong == 0;
    }

    /** A basin of five, under WEATHER 5: marble, girl, novice, dreamer, matron in NICHES 0, 1, 2, 0, 3. */
    static NymphRota five() {
        NymphRota x = new NymphRota();
        x.figure(1, 10, 3, 0);
        x.figure(2, 20, 6, 1);
        x.figure(4, 5, 2, 2);
        x.figure(5, 30, 9, 0);
        x.figure(3, 44, 5, 3);
        return x;
    }

    /** Feeds a text, eight bytes at a time; answers what the last feed() did. */
    static int feed(NymphRota x, String text) {
        int answer = 0;
        for (int i = 0; i < text.length(); i += 8) {
            int n = Math.min(8, text.length() - i);
            long eight = 0;
            for (int j = n - 1; j >= 0; j--) {
                eight = eight << 8 | text.charAt(i + j);
            }
            answer = x.feed(eight, n);
        }
        return answer;
    }

    static int rules(NymphRota x, String text) {
        feed(x, text);
        return x.rules();
    }

    /** Makes a SHEET a row of bytes that are these. */
    static void acts(NymphRota x, int sheet, int... acts) {
        x.sheet(sheet, 0, acts.length);
        for (int i = 0; i < acts.length; i++) {
            x.write(sheet, i, acts[i]);
        }
    }
}
