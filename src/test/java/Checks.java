import java.util.ArrayList;
import java.util.LinkedHashMap;
import java.util.List;
import java.util.Map;

/** What the tests share: comparing answers, asking for exceptions, and telling what was wrong. */
final class Checks {
    /** Numbers that are neither a tag, a dream nor a term of any ledger; some would wrap around in a shift. */
    static final int[] NEVER = {-1, -2, -31, -32, 24, 31, 32, 33, 64, 1000, Integer.MIN_VALUE, Integer.MAX_VALUE};

    private static final int SHOWN = 10;
    private static final Map<String, List<String>> WRONG = new LinkedHashMap<>();
    private static String label = "";
    private static int checked = 0;

    private Checks() {
    }

    interface Call {
        void make();
    }

    interface Question {
        Object ask();
    }

    /** What is wrong from now on is told under this label. */
    static void label(String under) {
        label = under;
    }

    /** A test that breaks off is wrong; those behind it are run all the same. */
    static void run(Call test) {
        String thrown = thrownBy(test);
        check("the test broke off by " + thrown, thrown.equals("nothing"));
    }

    static void same(String what, long got, long due) {
        check(what + " answered " + got + ", due is " + due, got == due);
    }

    static void same(String what, boolean got, boolean due) {
        check(what + " answered " + got + ", due is " + due, got == due);
    }

    static void same(String what, double got, double due) {
        boolean asDue = Double.doubleToLongBits(got) == Double.doubleToLongBits(due);
        check(what + " answered " + got + ", due is " + due, asDue);
    }

    static void same(String what, String got, String due) {
        check(what + ": " + got + ", due is " + due, got.equals(due));
    }

    private static void check(String wrong, boolean holds) {
        checked++;
        if (!holds) {
            WRONG.computeIfAbsent(label, each -> new ArrayList<>()).add(wrong);
        }
    }

    /** The call throws just this class (not one below it), and changes nothing that the digest tells. */
    static void refused(String what, DreamLedger x, Class<? extends RuntimeException> due, Call call) {
        long before = x.digest();
        same(what + " throws", thrownBy(call), due.getSimpleName());
        same(what + " leaves the digest", x.digest(), before);
    }

    static void noIndex(String what, DreamLedger x, Call call) {
        refused(what, x, IndexOutOfBoundsException.class, call);
    }

    static void noArgument(String what, DreamLedger x, Call call) {
        refused(what, x, IllegalArgumentException.class, call);
    }

    static void noState(String what, DreamLedger x, Call call) {
        refused(what, x, IllegalStateException.class, call);
    }

    /** The name of the exception that the call throws. */
    static String thrownBy(Call call) {
        return answerOf(() -> {
            call.make();
            return "nothing";
        });
    }

    /** The answer, or the name of the exception in its place. */
    static String answerOf(Question question) {
        try {
            return String.valueOf(question.ask());
        } catch (RuntimeException | Error e) {
            return e.getClass().getSimpleName();
        }
    }

    /** Prints what was wrong, and ends with exit code 1 if there was something. */
    static void end() {
        int wrong = 0;
        for (Map.Entry<String, List<String>> under : WRONG.entrySet()) {
            List<String> all = under.getValue();
            wrong += all.size();
            for (String each : all.subList(0, Math.min(all.size(), SHOWN))) {
                System.out.println(under.getKey() + each);
            }
            if (all.size() > SHOWN) {
                System.out.println(under.getKey() + "and " + (all.size() - SHOWN) + " more");
            }
        }
        System.out.println(checked + " answers compared, " + wrong + " wrong");
        if (wrong > 0) {
            System.exit(1);
        }
    }
}
