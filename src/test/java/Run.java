import java.util.ArrayList;
import java.util.Arrays;
import java.util.List;

/**
 * A run of calls on a new object. It remembers them, so that it can make twins of the object: a call
 * that is refused must leave a twin that had it just as one that had it not.
 */
final class Run {
    static final int MOST_CALLS = 512;
    private static final int FEW_VERSIONS = 12;

    private final String name;
    private final List<Call> calls = new ArrayList<>();
    private final RankShelf shelf = new RankShelf();

    Run(String name) {
        this.name = name;
    }

    private long ask(Call call) {
        calls.add(call);
        if (calls.size() > MOST_CALLS) {
            Check.due(name + ": a test's run is too long, its calls", calls.size(), MOST_CALLS);
        }
        return call.ask(shelf);
    }

    int callCount() {
        return calls.size();
    }

    Run due(String text, long want) {
        Check.due(name + ": " + text, ask(Call.of(text)), want);
        return this;
    }

    /** Calls that only lead to what a test looks at: none of them may answer a finding. */
    Run make(String... texts) {
        for (String text : texts) {
            long answer = ask(Call.of(text));
            Check.due(name + ": " + text + " makes what the test needs", Math.min(answer, 0), 0);
        }
        return this;
    }

    /** The call answers this finding, counts it, and changes nothing else. */
    Run refused(String text, int finding) {
        Call call = Call.of(text);
        compareTwins(text, call, finding);
        Check.due(name + ": " + text, ask(call), call.answerOf(finding));
        return this;
    }

    /**
     * The call answers this, and only these questions may be answered otherwise behind it: "about 3 2"
     * is one question, "row 3" all those that begin so. None is named where nothing may change.
     */
    Run changes(String text, long answer, String... questions) {
        Call call = Call.of(text);
        compareTwins(text, call, 0, questions);
        Check.due(name + ": " + text, ask(call), answer);
        return this;
    }

    private void compareTwins(String text, Call call, int finding, String... changed) {
        List<Call> questions = questions();
        long[] without = answers(questions, null);
        long[] with = answers(questions, call);
        for (int i = 0; i < with.length; i++) {
            Call question = questions.get(i);
            boolean counted = question.name().equals("found") && question.x()[0] == finding;
            if (!isOneOf(question, changed)) {
                String what = name + ": behind " + text + ", " + question.text();
                Check.due(what, with[i], without[i] + (counted ? 1 : 0));
            }
        }
    }

    private static boolean isOneOf(Call question, String... changed) {
        return Arrays.stream(changed).anyMatch(some -> (question.text() + " ").startsWith(some + " "));
    }

    /** A new object that has had all calls of the run. */
    RankShelf twin() {
        return twin(null);
    }

    private RankShelf twin(Call last) {
        RankShelf twin = new RankShelf();
        for (Call call : calls) {
            call.ask(twin);
        }
        if (last != null) {
            last.ask(twin);
        }
        return twin;
    }

    /** As an object is good for 512 calls, each twin is asked what is left of them, then comes a new one. */
    private long[] answers(List<Call> questions, Call last) {
        int room = MOST_CALLS - calls.size() - 1;
        Check.due(name + ": a test's run leaves no room for questions", Math.min(room, 1), 1);
        long[] told = new long[questions.size()];
        RankShelf twin = null;
        for (int i = 0; i < told.length && room > 0; i++) {
            if (i % room == 0) {
                twin = twin(last);
            }
            told[i] = questions.get(i).ask(twin);
        }
        return told;
    }

    private long answer(String text) {
        return answers(List.of(Call.of(text)), null)[0];
    }

    /** All that the face can tell; the counts come first, as other questions add to them. */
    private List<Call> questions() {
        List<Call> all = new ArrayList<>();
        for (int finding = -1; finding >= -6; finding--) {
            all.add(new Call("found", finding));
        }
        all.add(new Call("versions", 0));
        all.add(new Call("versions", 1));
        for (int i = 0; i <= 10; i++) {
            all.add(new Call("step", i));
        }
        for (int p = 0; p < 12; p++) {
            for (int what = 0; what < 3; what++) {
                all.add(new Call("row", p, what));
            }
            addPlaces(all, p, answer("row " + p + " 1"));
        }
        addVersions(all, answer("versions false"));
        return all;
    }

    private static void addPlaces(List<Call> all, int p, long length) {
        for (int i = 0; i < length; i++) {
            all.add(new Call("at", p, i));
            all.add(new Call("weight", p, i));
        }
    }

    private void addVersions(List<Call> all, long count) {
        for (int v = 0; v < count; v++) {
            for (int what = 0; what < 5; what++) {
                all.add(new Call("about", v, what));
            }
        }
        // Versions that stand nowhere on the shelf have to be brought there, which ends the other questions.
        for (int v = 0; v < count && count <= FEW_VERSIONS; v++) {
            all.add(new Call("version", v, 0));
            addPlaces(all, 0, answer("about " + v + " 0"));
        }
    }
}
