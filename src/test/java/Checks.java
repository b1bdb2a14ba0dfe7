import java.util.ArrayList;
import java.util.List;

/** What the tests share: comparing answers, asking for exceptions, and ledgers to begin with. */
final class Checks {
    /** Numbers that are neither a tag, a dream nor a term of any ledger; some would wrap around in a shift. */
    static final int[] NEVER = {-1, -2, -31, -32, 24, 31, 32, 33, 64, 1000, Integer.MIN_VALUE, Integer.MAX_VALUE};

    private static int checked = 0;
    private static final List<String> WRONG = new ArrayList<>();

    private Checks() {
    }

    interface Call {
        void make();
    }

    static void same(String what, long got, long due) {
        checked++;
        if (got != due) {
            WRONG.add(what + " answered " + got + ", due is " + due);
        }
    }

    static void same(String what, boolean got, boolean due) {
        same(what, got ? 1 : 0, due ? 1 : 0);
    }

    static void same(String what, double got, double due) {
        checked++;
        if (Double.doubleToLongBits(got) != Double.doubleToLongBits(due)) {
            WRONG.add(what + " answered " + got + ", due is " + due);
        }
    }

    static void same(String what, String got, String due) {
        checked++;
        if (!got.equals(due)) {
            WRONG.add(what + ": " + got + ", due is " + due);
        }
    }

    /** The call throws just this class (not one below it), and changes nothing that the digest tells. */
    static void refused(String what, DreamLedger x, Class<? extends RuntimeException> due, Call call) {
        long before = x.digest();
        same(what + " throws", thrownBy(call), due.getSimpleName());
        same(what + " leaves the digest", x.digest(), before);
    }

    static void noIndex(String what, DreamLedger x, Call call) {
        refused(what, x, IndexOutOfBoundsException.class, call);
    }

    static void noArgument(String what, DreamLedger x, Call call) {
        refused(what, x, IllegalArgumentException.class, call);
    }

    static void noState(String what, DreamLedger x, Call call) {
        refused(what, x, IllegalStateException.class, call);
    }

    private static String thrownBy(Call call) {
        try {
            call.make();
            return "nothing";
        } catch (RuntimeException | Error e) {
            return e.getClass().getSimpleName();
        }
    }

    /** A ledger with that many tags, none under another one. */
    static DreamLedger withTags(int count) {
        DreamLedger x = new DreamLedger();
        for (int tag = 0; tag < count; tag++) {
            x.addTag();
        }
        return x;
    }

    /** Tags 0 to 5: 1 and 2 under 0, 3 under 1, 5 under 4. */
    static DreamLedger withTree() {
        DreamLedger x = withTags(6);
        x.putUnder(1, 0);
        x.putUnder(2, 0);
        x.putUnder(3, 1);
        x.putUnder(5, 4);
        return x;
    }

    /** On the tree: dream 0 with own tags 3 and 5, 1 with 2, 2 with 4, 3 with 0; terms 0 to 5 are the tags. */
    static DreamLedger withDreams() {
        DreamLedger x = withTree();
        x.addDream(3, 6);
        x.tagDream(0, 5);
        x.addDream(2, 8);
        x.addDream(4, 8);
        x.addDream(0, 3);
        for (int tag = 0; tag < 6; tag++) {
            x.addTagTerm(tag);
        }
        return x;
    }

    /** Prints what was wrong, and ends with exit code 1 if there was something. */
    static void end() {
        int shown = 0;
        for (String wrong : WRONG) {
            if (shown < 40) {
                System.out.println(wrong);
            }
            shown++;
        }
        System.out.println(checked + " answers compared, " + WRONG.size() + " wrong");
        if (!WRONG.isEmpty()) {
            System.exit(1);
        }
    }
}
