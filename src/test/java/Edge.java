/** Asks a call at the least and the most that it takes, and at what it refuses on either side. */
final class Edge {
    /** A call, all its numbers given but one. */
    interface Call {
        long with(int v);
    }

    private final Check check;

    Edge(Check check) {
        this.check = check;
    }

    /** Both edges are taken, each with its answer; just beside them and far off it is refused. */
    void bounds(String name, Call call, int least, long atLeast, int most, long atMost,
            long refusal) {
        check.due(name + ", the least, " + least, call.with(least), atLeast);
        check.due(name + ", the most, " + most, call.with(most), atMost);
        refused(name, call, refusal, least - 1, most + 1, Integer.MIN_VALUE, Integer.MAX_VALUE);
    }

    void refused(String name, Call call, long refusal, int... values) {
        all(name + ", refused", call, refusal, values);
    }

    void taken(String name, Call call, long answer, int... values) {
        all(name + ", taken", call, answer, values);
    }

    private void all(String name, Call call, long answer, int... values) {
        for (int v : values) {
            check.due(name + ", " + v, call.with(v), answer);
        }
    }
}
