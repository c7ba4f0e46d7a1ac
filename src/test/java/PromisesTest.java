/** Each promise of the document: ordinary inputs, the edges it names, wrong inputs. */
final class PromisesTest {
    public static void main(String[] args) {
        Check check = new Check();
        BasinPromises.run(check);
        RulesPromises.run(check);
        BellPromises.run(check);
        PlanPromises.run(check);
        StrangerPromises.run(check);
        RowPromises.run(check);
        HostPromises.run(check);
        if (!check.isRight(52)) {
            System.exit(1);
        }
    }
}
