/** One call of the class, by its name and arguments; a boolean argument is 1 or 0. */
record Call(String name, int... x) {

    /** A call written as "push 0 1023 MIN 0": the ends of int are MIN and MAX, a boolean true or false. */
    static Call of(String text) {
        String[] words = text.split(" ");
        int[] x = new int[words.length - 1];
        for (int i = 0; i < x.length; i++) {
            x[i] = number(words[i + 1]);
        }
        return new Call(words[0], x);
    }

    private static int number(String word) {
        switch (word) {
            case "MIN": return Integer.MIN_VALUE;
            case "MAX": return Integer.MAX_VALUE;
            case "true": return 1;
            case "false": return 0;
            default: return Integer.parseInt(word);
        }
    }

    /** The call as of() reads it, but for the words: each argument is a number. */
    String text() {
        StringBuilder text = new StringBuilder(name);
        for (int argument : x) {
            text.append(' ').append(argument);
        }
        return text.toString();
    }

    /** weight() and sum() answer 0 where another call answers the finding. */
    long answerOf(int finding) {
        return name.equals("weight") || name.equals("sum") ? 0 : finding;
    }

    long ask(RankShelf s) {
        switch (name) {
            case "push": return s.push(x[0], x[1], x[2], x[3]);
            case "cut": return s.cut(x[0], x[1], x[2]);
            case "join": return s.join(x[0], x[1], x[2], x[3], x[4]);
            case "turn": return s.turn(x[0], x[1], x[2], x[3]);
            case "version": return s.version(x[0], x[1]);
            case "about": return s.about(x[0], x[1]);
            case "common": return s.common(x[0], x[1]);
            case "versions": return s.versions(x[0] == 1);
            case "seal": return s.seal(x[0], x[1], x[2] == 1);
            case "put": return s.put(x[0], x[1]);
            case "take": return s.take(x[0]);
            case "row": return s.row(x[0], x[1]);
            case "at": return s.at(x[0], x[1]);
            case "weight": return s.weight(x[0], x[1]);
            case "bit": return s.bit(x[0], x[1], x[2]);
            case "ones": return s.ones(x[0], x[1], x[2]);
            default: return askOfSpans(s);
        }
    }

    private long askOfSpans(RankShelf s) {
        switch (name) {
            case "kth": return s.kth(x[0], x[1], x[2], x[3]);
            case "rank": return s.rank(x[0], x[1], x[2], x[3]);
            case "between": return s.between(x[0], x[1], x[2], x[3], x[4]);
            case "next": return s.next(x[0], x[1], x[2], x[3]);
            case "prior": return s.prior(x[0], x[1], x[2], x[3]);
            case "median": return s.median(x[0], x[1], x[2]);
            case "half": return s.half(x[0], x[1], x[2]);
            case "often": return s.often(x[0], x[1], x[2], x[3]);
            case "distinct": return s.distinct(x[0], x[1], x[2]);
            case "sum": return s.sum(x[0], x[1], x[2], x[3]);
            case "differ": return s.differ(x[0], x[1], x[2], x[3], x[4]);
            case "first": return s.first(x[0], x[1]);
            case "step": return s.step(x[0]);
            case "found": return s.found(x[0]);
            default: throw new IllegalStateException(name);
        }
    }
}
