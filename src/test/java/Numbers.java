/** A number that a call asks for: the first and the last one that there are, and the ones next to these. */
final class Numbers {
    /** A call with the number to try. */
    interface ByNumber {
        void ask(DreamLedger x, int number);
    }

    /** How many there are of what the number names. */
    private interface Count {
        int of(DreamLedger x);
    }

    private static final Ledgers.Start[] STARTS = {Ledgers.ONE, Ledgers.SMALL, Ledgers.FULL};

    private Numbers() {
    }

    static void ofTags(String call, ByNumber ask) {
        onlyThoseThere(call, "tag", DreamLedger::tags, ask);
    }

    static void ofDreams(String call, ByNumber ask) {
        onlyThoseThere(call, "dream", DreamLedger::dreams, ask);
    }

    static void ofTerms(String call, ByNumber ask) {
        onlyThoseThere(call, "term", DreamLedger::terms, ask);
    }

    private static void onlyThoseThere(String call, String kind, Count count, ByNumber ask) {
        none(call + ", " + kind + " 0 of none", Ledgers.EMPTY, 0, ask);
        for (Ledgers.Start start : STARTS) {
            int there = count.of(start.make());
            String of = " of " + there;
            isThere(call + ", " + kind + " 0" + of, start, 0, ask);
            isThere(call + ", " + kind + " " + (there - 1) + of, start, there - 1, ask);
            none(call + ", " + kind + " -1" + of, start, -1, ask);
            none(call + ", " + kind + " " + there + of, start, there, ask);
            for (int never : Checks.NEVER) {
                DreamLedger x = start.make();
                Checks.noIndex(call + ", " + kind + " " + never + of, x, () -> ask.ask(x, never));
            }
        }
    }

    /** The call may be refused for another reason, but not as one without such a number. */
    private static void isThere(String what, Ledgers.Start start, int number, ByNumber ask) {
        DreamLedger x = start.make();
        String thrown = Checks.thrownBy(() -> ask.ask(x, number));
        boolean forAnother = thrown.equals("IllegalArgumentException") || thrown.equals("IllegalStateException");
        Checks.same(what + " is there: " + thrown, forAnother || thrown.equals("nothing"), true);
    }

    private static void none(String what, Ledgers.Start start, int number, ByNumber ask) {
        Twins.noIndex(what, start, x -> ask.ask(x, number));
    }
}
