import java.util.ArrayList;
import java.util.Arrays;
import java.util.List;
import java.util.TreeSet;

/**
 * Long runs of calls, drawn by a fixed formula, on a ledger and on a slow model that follows the words
 * of the document: sets of numbers instead of bits, night after night, and every cover tried.
 */
public final class ModelTests {
    private static final int RUNS = 400;
    private static final int CALLS = 512;

    private long seed;

    private ModelTests(long seed) {
        this.seed = seed;
    }

    public static void main(String[] args) {
        for (int run = 0; run < RUNS; run++) {
            new ModelTests(run * 7919L + 1).run(run);
        }
        Checks.end();
    }

    private int draw(int bound) {
        seed = seed * 6364136223846793005L + 1442695040888963407L;
        return (int) ((seed >>> 33) % bound);
    }

    /** A number below the count, mostly; else one that is not there. */
    private int drawFrom(int count) {
        int strange = draw(40);
        if (strange == 0) {
            return Checks.NEVER[draw(Checks.NEVER.length)];
        }
        if (strange == 1 || count == 0) {
            return count;
        }
        return draw(count);
    }

    private int drawNights() {
        return draw(12) == 0 ? (draw(2) == 0 ? 0 : 31) : draw(8) == 0 ? 30 : 1 + draw(3);
    }

    private void run(int run) {
        DreamLedger x = new DreamLedger();
        Model m = new Model();
        int tags = run % 5 == 0 ? 16 : 1 + draw(16);
        int begin = Math.min(tags, draw(17));
        for (int tag = 0; tag < begin; tag++) {
            both("begin", x, m, 0, 0, 0, 0);
        }
        for (int call = begin; call < CALLS - 1; call++) {
            int kind = draw(draw(4) == 0 ? 8 : 41);
            if (kind == 0 && m.tagCount() >= tags && draw(4) != 0) {
                kind = 1;
            }
            if (kind == 12 && draw(5) != 0) {
                kind = 9;
            }
            int[] a = arguments(kind, m);
            both("run " + run + " call " + call, x, m, kind, a[0], a[1], a[2]);
        }
        Checks.same("run " + run + " digest", x.digest(), m.digest());
    }

    private int[] arguments(int kind, Model m) {
        int tag = drawFrom(m.tagCount());
        int other = drawFrom(m.tagCount());
        int dream = drawFrom(m.dreamCount());
        int term = drawFrom(m.termCount());
        int term2 = drawFrom(m.termCount());
        switch (kind) {
            case 3: return new int[] {tag, draw(12) - 1, 0};
            case 4: case 5: case 20: case 21: return new int[] {dream, tag, 0};
            case 6: return new int[] {dream, draw(12) - 1, 0};
            case 7: case 37: return new int[] {drawNights(), 0, 0};
            case 9: case 10: case 29: return new int[] {term, term2, 0};
            case 11: case 26: case 27: case 28: case 30: return new int[] {term, 0, 0};
            case 22: case 23: case 24: return new int[] {dream, 0, 0};
            case 25: return new int[] {term, dream, 0};
            case 31: return new int[] {term, draw(7) - 1, 0};
            case 38: return new int[] {term, tag, other};
            case 39: return new int[] {term, tag, 0};
            default: return new int[] {tag, other, 0};
        }
    }

    private static void both(String where, DreamLedger x, Model m, int kind, int a, int b, int c) {
        String got = answer(x, kind, a, b, c);
        String due = m.answer(kind, a, b, c);
        Checks.same(where + ", kind " + kind + "(" + a + ", " + b + ", " + c + ")", got, due);
    }

    private static String answer(DreamLedger x, int kind, int a, int b, int c) {
        try {
            return "" + (kind < 20 ? early(x, kind, a, b) : late(x, kind, a, b, c));
        } catch (RuntimeException e) {
            return e.getClass().getSimpleName();
        }
    }

    private static Object early(DreamLedger x, int kind, int a, int b) {
        switch (kind) {
            case 0: return x.addTag();
            case 1: return x.putUnder(a, b);
            case 2: return x.freeTag(a);
            case 3: return x.addDream(a, b);
            case 4: return x.tagDream(a, b);
            case 5: return x.untagDream(a, b);
            case 6: return x.recall(a, b);
            case 7: return x.passNights(a);
            case 8: return x.addTagTerm(a);
            case 9: return x.addBothTerm(a, b);
            case 10: return x.addEitherTerm(a, b);
            case 11: return x.addWithoutTerm(a);
            case 12: return x.clearTerms();
            case 13: return x.hasParent(a);
            case 14: return x.parentOf(a);
            case 15: return x.tagsAbove(a);
            case 16: return x.tagsBelow(a);
            case 17: return x.isBelow(a, b);
            case 18: return x.nearestAbove(a, b);
            default: return x.dreamsWith(a);
        }
    }

    private static Object late(DreamLedger x, int kind, int a, int b, int c) {
        switch (kind) {
            case 20: return x.hasOwnTag(a, b);
            case 21: return x.hasTag(a, b);
            case 22: return x.tagsOf(a);
            case 23: return x.vividnessOf(a);
            case 24: return x.nightOf(a);
            case 25: return x.matches(a, b);
            case 26: return x.matchesOf(a);
            case 27: return x.mostVivid(a);
            case 28: return x.commonTags(a);
            case 29: return x.matchSame(a, b);
            case 30: return x.coverSize(a);
            case 31: return x.coverTag(a, b);
            case 32: return x.tags();
            case 33: return x.dreams();
            case 34: return x.terms();
            case 35: return x.nights();
            case 36: return x.fadedDreams();
            case 37: return x.fadedAfter(a);
            case 38: return x.matchesIfUnder(a, b, c);
            case 39: return x.bestParent(a, b);
            default: return x.meanVividness();
        }
    }

    /** An exception that is due, by its name. */
    private static final class Due extends RuntimeException {
        private static final long serialVersionUID = 1;

        Due(String name) {
            super(name);
        }
    }

    private static final class Dream {
        final TreeSet<Integer> own = new TreeSet<>();
        int vividness;
        int night;
    }

    /** The ledger as the document's words have it. */
    private static final class Model {
        private final List<Integer> parents = new ArrayList<>();
        private final List<Dream> dreams = new ArrayList<>();
        private final List<int[]> terms = new ArrayList<>();
        private int nights;

        int tagCount() {
            return parents.size();
        }

        int dreamCount() {
            return dreams.size();
        }

        int termCount() {
            return terms.size();
        }

        String answer(int kind, int a, int b, int c) {
            try {
                return "" + (kind < 13 ? change(kind, a, b) : kind < 25 ? tell(kind, a, b) : ask(kind, a, b, c));
            } catch (Due e) {
                return e.getMessage();
            }
        }

        private static void need(boolean so, String otherwise) {
            if (!so) {
                throw new Due(otherwise);
            }
        }

        private static void index(int number, int count) {
            need(number >= 0 && number < count, "IndexOutOfBoundsException");
        }

        private static void argument(boolean so) {
            need(so, "IllegalArgumentException");
        }

        private static void state(boolean so) {
            need(so, "IllegalStateException");
        }

        private void tag(int tag) {
            index(tag, parents.size());
        }

        private Object change(int kind, int a, int b) {
            switch (kind) {
                case 0:
                    state(parents.size() < 16);
                    parents.add(-1);
                    return parents.size() - 1;
                case 1:
                    placeUnder(a, b);
                    parents.set(a, b);
                    return above(a).size();
                case 2:
                    tag(a);
                    state(parents.get(a) >= 0);
                    return parents.set(a, -1);
                case 3: return write(a, b);
                case 4:
                    index(a, dreams.size());
                    tag(b);
                    state(dreams.get(a).own.add(b));
                    return dreams.get(a).own.size();
                case 5:
                    index(a, dreams.size());
                    tag(b);
                    state(dreams.get(a).own.contains(b) && dreams.get(a).own.size() > 1);
                    dreams.get(a).own.remove(b);
                    return dreams.get(a).own.size();
                case 6:
                    index(a, dreams.size());
                    argument(b >= 0 && b <= 9);
                    int before = dreams.get(a).vividness;
                    dreams.get(a).vividness = b;
                    return before;
                case 7:
                    argument(a >= 1 && a <= 30);
                    nights += a;
                    int[] then = vividnessBehind(a);
                    for (int dream = 0; dream < then.length; dream++) {
                        dreams.get(dream).vividness = then[dream];
                    }
                    return zeros(then);
                case 8:
                    tag(a);
                    return newTerm(8, a, a);
                case 12:
                    int count = terms.size();
                    terms.clear();
                    return count;
                default:
                    index(a, terms.size());
                    index(kind == 11 ? a : b, terms.size());
                    return newTerm(kind, a, b);
            }
        }

        private Object write(int tag, int vividness) {
            tag(tag);
            argument(vividness >= 1 && vividness <= 9);
            state(dreams.size() < 24);
            Dream dream = new Dream();
            dream.own.add(tag);
            dream.vividness = vividness;
            dream.night = nights;
            dreams.add(dream);
            return dreams.size() - 1;
        }

        private Object newTerm(int kind, int a, int b) {
            state(terms.size() < 20);
            terms.add(new int[] {kind, a, b});
            return terms.size() - 1;
        }

        private void placeUnder(int tag, int parent) {
            tag(tag);
            tag(parent);
            argument(tag != parent);
            state(!above(parent).contains(tag));
        }

        private Object tell(int kind, int a, int b) {
            if (kind >= 20) {
                index(a, dreams.size());
                if (kind <= 21) {
                    tag(b);
                }
                Dream dream = dreams.get(a);
                switch (kind) {
                    case 20: return dream.own.contains(b);
                    case 21: return has(dream).contains(b);
                    case 22: return has(dream).size();
                    case 23: return dream.vividness;
                    default: return dream.night;
                }
            }
            tag(a);
            if (kind == 17 || kind == 18) {
                tag(b);
            }
            switch (kind) {
                case 13: return parents.get(a) >= 0;
                case 14:
                    state(parents.get(a) >= 0);
                    return parents.get(a);
                case 15: return above(a).size();
                case 16: return below(a);
                case 17: return above(a).contains(b);
                case 18: return nearest(a, b);
                default: return with(a).size();
            }
        }

        private Object ask(int kind, int a, int b, int c) {
            switch (kind) {
                case 32: return parents.size();
                case 33: return dreams.size();
                case 34: return terms.size();
                case 35: return nights;
                case 36: return faded();
                case 37:
                    argument(a >= 1 && a <= 30);
                    return zeros(vividnessBehind(a));
                case 40: return mean();
                default:
                    index(a, terms.size());
                    return askTerm(kind, a, b, c);
            }
        }

        private Object askTerm(int kind, int term, int b, int c) {
            switch (kind) {
                case 25:
                    index(b, dreams.size());
                    return matched(term).contains(b);
                case 26: return matched(term).size();
                case 27: return mostVivid(term);
                case 28: return common(term).size();
                case 29:
                    index(b, terms.size());
                    return matched(term).equals(matched(b));
                case 30: return cover(term).size();
                case 31:
                    List<Integer> cover = cover(term);
                    index(b, cover.size());
                    return cover.get(b);
                case 38:
                    placeUnder(b, c);
                    return matchedIfUnder(term, b, c);
                default:
                    tag(b);
                    return bestParent(term, b);
            }
        }

        private TreeSet<Integer> above(int tag) {
            TreeSet<Integer> all = new TreeSet<>();
            for (int at = parents.get(tag); at >= 0; at = parents.get(at)) {
                all.add(at);
            }
            return all;
        }

        private int below(int tag) {
            int count = 0;
            for (int other = 0; other < parents.size(); other++) {
                count += above(other).contains(tag) ? 1 : 0;
            }
            return count;
        }

        private int nearest(int a, int b) {
            int best = -1;
            for (int tag = 0; tag < parents.size(); tag++) {
                boolean overA = tag == a || above(a).contains(tag);
                boolean overB = tag == b || above(b).contains(tag);
                if (overA && overB && (best < 0 || above(tag).size() > above(best).size())) {
                    best = tag;
                }
            }
            return best;
        }

        private TreeSet<Integer> has(Dream dream) {
            TreeSet<Integer> all = new TreeSet<>(dream.own);
            for (int tag : dream.own) {
                all.addAll(above(tag));
            }
            return all;
        }

        private TreeSet<Integer> with(int tag) {
            TreeSet<Integer> all = new TreeSet<>();
            for (int dream = 0; dream < dreams.size(); dream++) {
                if (has(dreams.get(dream)).contains(tag)) {
                    all.add(dream);
                }
            }
            return all;
        }

        private TreeSet<Integer> matched(int term) {
            int[] t = terms.get(term);
            TreeSet<Integer> all = new TreeSet<>();
            if (t[0] == 8) {
                return with(t[1]);
            }
            if (t[0] == 11) {
                for (int dream = 0; dream < dreams.size(); dream++) {
                    all.add(dream);
                }
                all.removeAll(matched(t[1]));
                return all;
            }
            all.addAll(matched(t[1]));
            if (t[1] == t[2]) {
                return all;
            }
            if (t[0] == 9) {
                all.retainAll(matched(t[2]));
            } else {
                all.addAll(matched(t[2]));
            }
            return all;
        }

        private int[] vividnessBehind(int count) {
            int[] now = new int[dreams.size()];
            for (int dream = 0; dream < now.length; dream++) {
                now[dream] = dreams.get(dream).vividness;
            }
            for (int night = 0; night < count; night++) {
                for (int dream = 0; dream < now.length - 1; dream++) {
                    TreeSet<Integer> like = new TreeSet<>(dreams.get(dream).own);
                    like.retainAll(dreams.get(now.length - 1).own);
                    if (now[dream] >= 1 && like.isEmpty()) {
                        now[dream]--;
                    }
                }
            }
            return now;
        }

        private static int zeros(int[] numbers) {
            return (int) Arrays.stream(numbers).filter(each -> each == 0).count();
        }

        private int faded() {
            return zeros(vividnessBehind(0));
        }

        private double mean() {
            double sum = 0;
            for (Dream dream : dreams) {
                sum += dream.vividness;
            }
            return dreams.isEmpty() ? 0 : sum / dreams.size();
        }

        private int mostVivid(int term) {
            int best = -1;
            for (int dream : matched(term)) {
                if (best < 0 || dreams.get(dream).vividness > dreams.get(best).vividness) {
                    best = dream;
                }
            }
            return best;
        }

        private TreeSet<Integer> common(int term) {
            TreeSet<Integer> all = null;
            for (int dream : matched(term)) {
                TreeSet<Integer> has = has(dreams.get(dream));
                if (all == null) {
                    all = has;
                }
                all.retainAll(has);
            }
            return all == null ? new TreeSet<>() : all;
        }

        private List<Integer> cover(int term) {
            List<TreeSet<Integer>> sets = new ArrayList<>();
            for (int dream : matched(term)) {
                sets.add(has(dreams.get(dream)));
            }
            for (int size = 0; ; size++) {
                List<Integer> found = coverOf(sets, new ArrayList<>(), 0, size);
                if (found != null) {
                    return found;
                }
            }
        }

        /** Every set of that size, in the order of their tags; the first that covers. */
        private List<Integer> coverOf(List<TreeSet<Integer>> sets, List<Integer> taken, int from, int size) {
            if (taken.size() == size) {
                for (TreeSet<Integer> set : sets) {
                    if (taken.stream().noneMatch(set::contains)) {
                        return null;
                    }
                }
                return taken;
            }
            for (int tag = from; tag < parents.size(); tag++) {
                List<Integer> more = new ArrayList<>(taken);
                more.add(tag);
                List<Integer> found = coverOf(sets, more, tag + 1, size);
                if (found != null) {
                    return found;
                }
            }
            return null;
        }

        private int matchedIfUnder(int term, int tag, int parent) {
            int before = parents.set(tag, parent);
            int count = matched(term).size();
            parents.set(tag, before);
            return count;
        }

        private int bestParent(int term, int tag) {
            int best = -1;
            int most = -1;
            for (int parent = 0; parent < parents.size(); parent++) {
                if (parent != tag && !above(parent).contains(tag)) {
                    int count = matchedIfUnder(term, tag, parent);
                    if (count > most) {
                        most = count;
                        best = parent;
                    }
                }
            }
            return most > matched(term).size() ? best : -1;
        }

        long digest() {
            List<Integer> xs = new ArrayList<>(List.of(parents.size(), dreams.size(), terms.size(), nights, faded()));
            for (int tag = 0; tag < parents.size(); tag++) {
                xs.addAll(List.of(parents.get(tag), above(tag).size(), below(tag), with(tag).size()));
            }
            for (Dream dream : dreams) {
                xs.addAll(List.of(has(dream).size(), dream.vividness, dream.night));
                for (int tag = 0; tag < parents.size(); tag++) {
                    xs.add(dream.own.contains(tag) ? 1 : 0);
                }
            }
            for (int term = 0; term < terms.size(); term++) {
                List<Integer> cover = cover(term);
                xs.addAll(List.of(matched(term).size(), mostVivid(term), common(term).size(), cover.size()));
                xs.addAll(cover);
                for (int dream = 0; dream < dreams.size(); dream++) {
                    xs.add(matched(term).contains(dream) ? 1 : 0);
                }
            }
            long d = 1867;
            for (int x : xs) {
                d = d * 31 + x;
            }
            return d;
        }
    }
}
