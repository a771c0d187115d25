import java.util.ArrayList;
import java.util.List;
import java.util.Random;

/**
 * LANGUAGE.md: "No call may ever throw or fail to end, for any arguments in any state", beyond the 512th
 * call too, where only the answers are free; and "the same calls always give the same answers", whatever
 * other objects are asked.
 */
public final class EveryCallTest {
    /** Each call with as many arguments as it has. */
    private static final String[] CALLS = {"push 4", "cut 3", "join 5", "turn 4", "version 2", "about 2", "common 2",
        "versions 1", "seal 3", "put 2", "take 1", "row 2", "at 2", "weight 2", "bit 3", "ones 3", "kth 4", "rank 4",
        "between 5", "next 4", "prior 4", "median 3", "half 3", "often 4", "distinct 3", "sum 4", "differ 5", "first 2",
        "step 1", "found 1"};
    private static final int[] ENDS = {Integer.MIN_VALUE, -6, -1, 0, 1, 2, 11, 12, 400, Integer.MAX_VALUE};

    public static void main(String[] args) {
        everyCallInEveryState();
        farBeyond512Calls();
        objectsShareNothing();
        Check.end();
    }

    private static String nameOf(String call) {
        return call.substring(0, call.indexOf(' '));
    }

    private static int argumentsOf(String call) {
        return Integer.parseInt(call.substring(call.indexOf(' ') + 1));
    }

    private static void doesNotThrow(String name, RankShelf shelf, Call call) {
        int thrown = 0;
        try {
            call.ask(shelf);
        } catch (RuntimeException e) {
            thrown = 1;
        }
        Check.due(name + ": throws at " + call.text(), thrown, 0);
    }

    /** Each call with every choice of these arguments, on one object, so that its state goes on changing. */
    private static void everyChoice(String name, RankShelf shelf) {
        for (String call : CALLS) {
            int[] x = new int[argumentsOf(call)];
            int choices = (int) Math.pow(ENDS.length, x.length);
            for (int choice = 0; choice < choices && Check.wrongs() < 20; choice++) {
                for (int i = 0, rest = choice; i < x.length; i++, rest /= ENDS.length) {
                    x[i] = ENDS[rest % ENDS.length];
                }
                doesNotThrow(name, shelf, new Call(nameOf(call), x));
            }
        }
    }

    private static void everyCallInEveryState() {
        everyChoice("a new object", new RankShelf());
        everyChoice("rows of each kind", Edges.shelf("rows of each kind").twin());
        everyChoice("a row of 400", Edges.rowOf400("a row of 400").make("seal 0 1 false", "seal 0 2 true").twin());
        everyChoice("500 versions", Edges.versions("500 versions", 500).twin());
        everyChoice("20000 places", Edges.made("20000 places", 20000).twin());
        Run empty = new Run("an empty shelf").make("take 0");
        everyChoice("an empty shelf", empty.twin());
    }

    /** Calls that mostly are right ones: places 0 to 3, and small numbers for all else. */
    private static Call ordinary(Random random) {
        String call = CALLS[random.nextInt(CALLS.length)];
        int[] x = new int[argumentsOf(call)];
        for (int i = 0; i < x.length; i++) {
            x[i] = random.nextInt(i == 0 ? 3 : 5);
        }
        if (nameOf(call).equals("found")) {
            x[0] = -1 - random.nextInt(6);
        }
        return new Call(nameOf(call), x);
    }

    private static void farBeyond512Calls() {
        for (int seed = 0; seed < 5; seed++) {
            RankShelf shelf = new RankShelf();
            Random random = new Random(seed);
            for (int call = 0; call < 20000 && Check.wrongs() < 20; call++) {
                doesNotThrow("beyond 512 calls", shelf, ordinary(random));
            }
        }
    }

    private static List<Call> calls(int seed) {
        Random random = new Random(seed);
        List<Call> calls = new ArrayList<>();
        while (calls.size() < Run.MOST_CALLS) {
            calls.add(ordinary(random));
        }
        return calls;
    }

    private static long[] answersAlone(List<Call> calls) {
        RankShelf shelf = new RankShelf();
        return calls.stream().mapToLong(call -> call.ask(shelf)).toArray();
    }

    /** Two objects that are asked by turns answer as each does alone. */
    private static void objectsShareNothing() {
        for (int seed = 0; seed < 40 && Check.wrongs() < 20; seed++) {
            List<Call> ones = calls(seed);
            List<Call> others = calls(1000 + seed);
            long[] onesAlone = answersAlone(ones);
            long[] othersAlone = answersAlone(others);
            RankShelf one = new RankShelf();
            RankShelf other = new RankShelf();
            for (int i = 0; i < onesAlone.length; i++) {
                Check.due("by turns: " + ones.get(i).text(), ones.get(i).ask(one), onesAlone[i]);
                Check.due("by turns: " + others.get(i).text(), others.get(i).ask(other), othersAlone[i]);
            }
        }
    }
}
