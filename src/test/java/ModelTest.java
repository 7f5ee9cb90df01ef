/** Runs of random calls, each answer compared with that of the model. Arguments set the number of runs and the first. */
public final class ModelTest {
    private static final int CALLS = 512;

    private ModelTest() {
    }

    public static void main(String[] args) {
        int runs = args.length > 0 ? Integer.parseInt(args[0]) : 400;
        int first = args.length > 1 ? Integer.parseInt(args[1]) : 1;
        int wrong = 0;
        for (int run = first; run < first + runs; run++) {
            wrong += isAsDue(run, CALLS) ? 0 : 1;
        }
        System.out.println(runs + " runs, " + wrong + " with answers that are not as due");
        if (wrong != 0) {
            System.exit(1);
        }
    }

    /** The twin gets the same calls and is asked what calls make sense, so that the object gets no other calls. */
    static boolean isAsDue(int run, int number) {
        TableColumnBalancer x = new TableColumnBalancer();
        TableColumnBalancer twin = new TableColumnBalancer();
        Model model = new Model();
        RandomCalls calls = new RandomCalls(run, twin);
        for (int i = 0; i < number; i++) {
            RandomCalls.Call call = calls.next();
            String due = model.answer(call.name(), call.arguments());
            String answer = Calls.answer(x, call.name(), call.arguments());
            Calls.answer(twin, call.name(), call.arguments());
            if (!answer.equals(due)) {
                System.out.println("run " + run + ", call " + i + ": " + call + " answered " + answer + ", due is " + due);
                return false;
            }
        }
        return true;
    }
}
