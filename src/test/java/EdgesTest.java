import java.lang.reflect.Method;
import java.util.Arrays;
import java.util.Comparator;
import java.util.List;

/** Runs each test of a boundary case; the test's name begins with its promise's number. */
final class EdgesTest {
    private static final List<Class<? extends Edges>> ALL = List.of(BasinEdges.class, RulesEdges.class, BellEdges.class,
            PlanEdges.class, StrangerEdges.class, RowEdges.class, HostEdges.class, KeptEdges.class);
    private static final int PROMISES = 52;

    private final int[] tests = new int[PROMISES + 1];
    private int wrong;
    private int answers;

    private void run(Class<? extends Edges> edges) throws ReflectiveOperationException {
        Method[] methods = edges.getDeclaredMethods();
        Arrays.sort(methods, Comparator.comparing(Method::getName));
        for (Method method : methods) {
            String name = method.getName();
            if (name.matches("p\\d\\d_\\w+")) {
                Edges test = edges.getDeclaredConstructor().newInstance();
                method.invoke(test);
                tests[Integer.parseInt(name.substring(1, 3))]++;
                answers += test.answers();
                tell(name, test);
            }
        }
    }

    private void tell(String name, Edges test) {
        boolean isWrong = test.answers() == 0 || !test.faults().isEmpty();
        wrong += isWrong ? 1 : 0;
        for (String fault : test.faults()) {
            System.out.println(name + ": " + fault);
        }
        if (test.answers() == 0) {
            System.out.println(name + " asks nothing");
        }
    }

    public static void main(String[] args) throws ReflectiveOperationException {
        EdgesTest all = new EdgesTest();
        for (Class<? extends Edges> edges : ALL) {
            all.run(edges);
        }
        for (int p = 1; p <= PROMISES; p++) {
            if (all.tests[p] == 0) {
                all.wrong++;
                System.out.println("promise " + p + " has no test of an edge");
            }
        }
        System.out.println("edges: " + Arrays.stream(all.tests).sum() + " tests, " + all.answers + " answers, "
                + all.wrong + " tests wrong");
        if (all.wrong != 0) {
            System.exit(1);
        }
    }
}
