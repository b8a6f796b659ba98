import java.util.ArrayList;
import java.util.List;
import java.util.Random;
import java.util.TreeMap;

/**
 * All promises: runs of 512 calls by chance (of fixed seeds), each answer set against Model's.
 * How many runs can be given as an argument.
 */
public final class AgainstModelTest {
    private static final int RUNS = 400, CALLS = 512;
    private static final int[] ODD = {Integer.MAX_VALUE, Integer.MIN_VALUE, -1, -9, 100, 1 << 16, -2, 33};
    private static final String[] OFTEN = {"say", "unsay", "undo", "on", "keep", "lots", "cheapest", "judge",
            "asked", "upper", "lower", "last", "mark", "end", "rings", "away", "bill", "whose", "wash", "said"};
    private final TreeMap<String, Integer> refusals = new TreeMap<>();
    private final List<String> names = new ArrayList<>();
    private final Due due = new Due();

    public static void main(String[] args) {
        AgainstModelTest test = new AgainstModelTest();
        test.names.addAll(Calls.names());
        for (int k = 0; k < 3; k++) {
            test.names.addAll(List.of(OFTEN));
        }
        test.due.is("methods of the face", Calls.names().size(), 42);
        int runs = args.length > 0 ? Integer.parseInt(args[0]) : RUNS;
        for (int seed = 1; seed <= runs; seed++) {
            test.run(new Random(seed));
        }
        test.everyRefusalWasMet();
        test.due.finish("AgainstModelTest");
    }

    private void run(Random random) {
        IronedQuarrels x = new IronedQuarrels();
        Model model = new Model();
        boolean sorries = random.nextBoolean();
        for (int done = 0; done < CALLS;) {
            if (random.nextInt(90) == 0 || done == 0) {
                done += heapByChance(x, model, random, sorries);
            }
            String name = names.get(random.nextInt(names.size()));
            int[] arguments = argumentsOf(name, random);
            compare(x, model, name, arguments);
            compare(x, model, "asked");
            compare(x, model, "digest");
            compare(x, model, "finding");
            compare(x, model, "upper");
            compare(x, model, "lower");
            done += 6;
        }
    }

    private void compare(IronedQuarrels x, Model model, String name, int... arguments) {
        long got = Calls.call(x, name, arguments);
        long want = model.call(name, arguments);
        due.is(Calls.told(name, arguments), got, want);
        if (want < 0 && want > -10) {
            String finding = want == -3 ? " " + model.call("finding") : "";
            refusals.merge(name + " " + want + finding, 1, Integer::sum);
        }
    }

    /** A TEXT of some SAYINGS, now and then with a wrong sign, that is made a HEAP. */
    private int heapByChance(IronedQuarrels x, Model model, Random random, boolean sorries) {
        StringBuilder signs = new StringBuilder();
        int many = random.nextInt(13);
        int persons = 2 + random.nextInt(5);
        for (int i = 0; i < many; i++) {
            int who = random.nextInt(persons);
            int toWhom = (who + 1 + random.nextInt(persons - 1)) % persons;
            signs.append(sorries && random.nextInt(3) == 0 ? 'y' : "sotpyc".charAt(random.nextInt(6)));
            signs.append(who).append(toWhom).append(random.nextInt(6)).append(1 + random.nextInt(9));
            signs.append(i == 0 || random.nextInt(3) == 0 ? '-' : (char) ('A' + random.nextInt(i)));
            signs.append(" ".repeat(signs.length() < 70 && random.nextInt(6) == 0 ? 1 : 0));
        }
        signs.setLength(Math.min(80, signs.length()));
        if (signs.length() > 0 && random.nextInt(8) == 0) {
            signs.setCharAt(random.nextInt(signs.length()), (char) (30 + random.nextInt(100)));
        }
        if (random.nextInt(10) == 0) {
            signs.setLength(random.nextInt(signs.length() + 1));
        }
        int t = random.nextInt(4);
        compare(x, model, "text", t, signs.length());
        for (int i = 0; i < signs.length(); i++) {
            compare(x, model, "put", t, i, signs.charAt(i));
        }
        compare(x, model, "fault", t);
        compare(x, model, "heap", t);
        return signs.length() + 3;
    }

    private int[] argumentsOf(String name, Random random) {
        int[] arguments = new int[Calls.howManyArguments(name)];
        for (int k = 0; k < arguments.length; k++) {
            arguments[k] = random.nextInt(25) == 0 ? ODD[random.nextInt(ODD.length)] : likely(name, k, random);
        }
        return arguments;
    }

    private static int likely(String name, int k, Random random) {
        switch (name + k) {
            case "say1":
                return 100 * random.nextInt(6) + 10 * random.nextInt(6) + random.nextInt(7);
            case "say2":
                return random.nextInt(11);
            case "say3":
                return random.nextInt(3) == 0 ? -9 : random.nextInt(12);
            case "text1":
                return random.nextInt(8) == 0 ? 78 + random.nextInt(5) : random.nextInt(20) - 2;
            case "row1":
                return random.nextInt(8) == 0 ? 38 + random.nextInt(5) : random.nextInt(15) - 1;
            case "lots1":
                return random.nextInt();
            case "copy0":
            case "copy2":
            case "judge0":
            case "cheapest0":
            case "longest0":
            case "lay0":
            case "at0":
                return random.nextInt(4);
            case "undo0":
                return random.nextInt(26);
            case "put1":
                return random.nextInt(82);
            case "put2":
                return random.nextInt(400) - 200;
            case "colour1":
                return random.nextInt(22);
            default:
                return random.nextInt(k == 0 ? 13 : 9) - (random.nextInt(20) == 0 ? 1 : 0);
        }
    }

    /** So that the runs don't become tame unseen. */
    private void everyRefusalWasMet() {
        String[] wanted = {"row -1", "row -3 5", "lay -1", "lay -3 1", "lay -3 2", "at -1", "at -3 1", "at -3 2",
            "tear -1", "tear -3 1", "copy -1", "copy -3 5", "copy -3 1", "copy -3 2", "mean -1", "mean -3 1",
            "mean -3 4", "text -1", "text -3 5", "put -1", "put -3 1", "put -3 2", "fault -1", "fault -3 1",
            "fault -9", "heap -1", "heap -3 1", "heap -4", "saying -1", "mark -1", "mark -3 3", "say -1", "say -2",
            "unsay -1", "unsay -4", "undo -1", "keep -1", "keep -4", "on -1", "on -3 1", "leans -1", "feeds -1",
            "first -1", "longest -1", "cheapest -1", "judge -1", "judge -3 1", "judge -3 3", "judge -9", "last -1",
            "last -4", "end -1", "whose -1", "whose -3 3", "bill -1", "bill -3 4", "colour -1", "lots -1",
            "count -1", "findings -1"};
        for (String refusal : wanted) {
            due.holds(refusal + " was met", refusals.containsKey(refusal));
        }
    }
}
