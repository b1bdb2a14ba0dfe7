import java.util.HashMap;
import java.util.Map;

/** Calls that are to change nothing: behind them the ledger answers all as a twin that never had the call. */
final class Twins {
    private static final Map<Ledgers.Start, String[]> KNOWN = new HashMap<>();

    private Twins() {
    }

    static void unchanged(String call, Ledgers.Start start, Ledgers.Use use) {
        for (int part = 0; part < Answers.PARTS; part++) {
            DreamLedger x = start.make();
            use.on(x);
            sameAsTwin(call, x, start, part);
        }
    }

    /** The call throws just this class, and changes nothing. */
    static void refused(String call, Ledgers.Start start, Class<? extends RuntimeException> due, Ledgers.Use use) {
        for (int part = 0; part < Answers.PARTS; part++) {
            DreamLedger x = start.make();
            Checks.same(call + " throws", Checks.thrownBy(() -> use.on(x)), due.getSimpleName());
            sameAsTwin(call, x, start, part);
        }
    }

    static void noIndex(String call, Ledgers.Start start, Ledgers.Use use) {
        refused(call, start, IndexOutOfBoundsException.class, use);
    }

    static void noArgument(String call, Ledgers.Start start, Ledgers.Use use) {
        refused(call, start, IllegalArgumentException.class, use);
    }

    static void noState(String call, Ledgers.Start start, Ledgers.Use use) {
        refused(call, start, IllegalStateException.class, use);
    }

    private static void sameAsTwin(String call, DreamLedger x, Ledgers.Start start, int part) {
        String[] due = KNOWN.computeIfAbsent(start, Twins::allOf)[part].split("\n");
        String[] got = Answers.of(x, part).split("\n");
        for (int line = 0; line < due.length && line < got.length; line++) {
            if (!got[line].equals(due[line])) {
                Checks.same("behind " + call, got[line], due[line]);
                return;
            }
        }
        Checks.same("answers behind " + call, got.length, due.length);
    }

    private static String[] allOf(Ledgers.Start start) {
        String[] all = new String[Answers.PARTS];
        for (int part = 0; part < all.length; part++) {
            all[part] = Answers.of(start.make(), part);
        }
        return all;
    }
}
