import java.math.BigInteger;

/** The sentences of the promises 34 to 43, each with the cases at its edges. */
final class LedgerEdges {
    private static final String NO_TERM_OR_TAG = "Throws `IndexOutOfBoundsException` if there is no such term or tag";

    private LedgerEdges() {
    }

    static void all() {
        Checks.run(LedgerEdges::tags);
        Checks.run(LedgerEdges::dreams);
        Checks.run(LedgerEdges::terms);
        Checks.run(LedgerEdges::nights);
        Checks.run(LedgerEdges::fadedDreams);
        Checks.run(LedgerEdges::fadedAfter);
        Checks.run(LedgerEdges::fadedAfterAsPassNights);
        Checks.run(LedgerEdges::fadedAfterChangesNothing);
        Checks.run(LedgerEdges::fadedAfterHowMany);
        Checks.run(LedgerEdges::matchesIfUnder);
        Checks.run(LedgerEdges::matchesIfUnderAsPutUnder);
        Checks.run(LedgerEdges::matchesIfUnderChangesNothing);
        Checks.run(LedgerEdges::matchesIfUnderNoTermOrTag);
        Checks.run(LedgerEdges::matchesIfUnderTheSame);
        Checks.run(LedgerEdges::matchesIfUnderOneBelow);
        Checks.run(LedgerEdges::bestParentOfTheMost);
        Checks.run(LedgerEdges::bestParentOfSeveral);
        Checks.run(LedgerEdges::bestParentNotMore);
        Checks.run(LedgerEdges::bestParentWhereItCanBePut);
        Checks.run(LedgerEdges::bestParentAsMatchesIfUnder);
        Checks.run(LedgerEdges::bestParentChangesNothing);
        Checks.run(LedgerEdges::bestParentNoTermOrTag);
        Checks.run(LedgerEdges::meanVividness);
        Checks.run(LedgerEdges::meanVividnessWithoutAny);
        Checks.run(LedgerEdges::digestOfNothing);
        Checks.run(LedgerEdges::digestNumberByNumber);
        Checks.run(LedgerEdges::digestWrapsAround);
        Checks.run(LedgerEdges::digestAgain);
    }

    private static void tags() {
        Document.promise(34, "Returns how many tags there are.");
        DreamLedger x = new DreamLedger();
        for (int tags = 0; tags < 16; tags++) {
            Checks.same("tags", x.tags(), tags);
            x.addTag();
        }
        Checks.same("all 16", x.tags(), 16);
        Checks.noState("one more", x, x::addTag);
        Checks.same("16 still", x.tags(), 16);
    }

    private static void dreams() {
        Document.promise(35, "Returns how many dreams there are.");
        DreamLedger x = Ledgers.withTags(1);
        for (int dreams = 0; dreams < 24; dreams++) {
            Checks.same("dreams", x.dreams(), dreams);
            x.addDream(0, 1);
        }
        Checks.same("all 24", x.dreams(), 24);
        Checks.noState("one more", x, () -> x.addDream(0, 1));
        x.passNights(30);
        x.recall(23, 0);
        Checks.same("24 still, faded", x.dreams(), 24);
    }

    private static void terms() {
        Document.promise(36, "Returns how many terms there are.");
        DreamLedger x = Ledgers.withTags(1);
        for (int terms = 0; terms < 20; terms++) {
            Checks.same("terms", x.terms(), terms);
            x.addTagTerm(0);
        }
        Checks.same("all 20", x.terms(), 20);
        Checks.noState("one more", x, () -> x.addTagTerm(0));
        Checks.same("20 still", x.terms(), 20);
        x.clearTerms();
        Checks.same("struck out", x.terms(), 0);
    }

    private static void nights() {
        Document.promise(37, "Returns how many nights went by.");
        DreamLedger x = new DreamLedger();
        Checks.same("none", x.nights(), 0);
        x.passNights(1);
        Checks.same("one", x.nights(), 1);
        x.passNights(30);
        Checks.same("31", x.nights(), 31);
        Checks.noArgument("31 at once", x, () -> x.passNights(31));
        x.fadedAfter(30);
        Checks.same("31 still", x.nights(), 31);
        for (int call = 0; call < 400; call++) {
            x.passNights(30);
        }
        Checks.same("many", x.nights(), 31 + 400 * 30);
    }

    private static void fadedDreams() {
        Document.promise(38, "Returns how many dreams have a vividness of 0.");
        Checks.same("no dream is there", new DreamLedger().fadedDreams(), 0);
        DreamLedger x = Ledgers.withTags(2);
        for (int dream = 0; dream < 24; dream++) {
            x.addDream(dream == 23 ? 1 : 0, 1);
        }
        Checks.same("none, all of 1", x.fadedDreams(), 0);
        x.passNights(1);
        Checks.same("all but the latest", x.fadedDreams(), 23);
        x.recall(23, 0);
        Checks.same("all 24", x.fadedDreams(), 24);
        x.recall(0, 1);
        Checks.same("all but the first", x.fadedDreams(), 23);
    }

    private static final String FADED_AFTER = "Returns how many dreams would have a vividness of 0 behind them,";

    private static void fadedAfter() {
        Document.promise(39, FADED_AFTER);
        Checks.same("no dream is there", new DreamLedger().fadedAfter(30), 0);
        Checks.same("the only one is the latest", Ledgers.withOne().fadedAfter(30), 0);
        DreamLedger x = Ledgers.withTags(3);
        x.addDream(0, 1);
        x.addDream(0, 9);
        x.addDream(1, 1);
        x.addDream(1, 9);
        Checks.same("1 night", x.fadedAfter(1), 1);
        Checks.same("8 nights", x.fadedAfter(8), 1);
        Checks.same("9 nights", x.fadedAfter(9), 2);
        Checks.same("30 nights, two are like the latest", x.fadedAfter(30), 2);
        x.recall(3, 0);
        Checks.same("the latest has faded before", x.fadedAfter(1), 2);
        x.recall(2, 0);
        Checks.same("so has one like the latest", x.fadedAfter(1), 3);
        x.recall(0, 0);
        Checks.same("so has another one", x.fadedAfter(1), 3);
    }

    private static void fadedAfterAsPassNights() {
        Document.promise(39, FADED_AFTER);
        for (Ledgers.Start start : new Ledgers.Start[] {Ledgers.EMPTY, Ledgers.ONE, Ledgers.SMALL, Ledgers.FULL}) {
            for (int nights = 1; nights <= 30; nights++) {
                DreamLedger x = start.make();
                int due = start.make().passNights(nights);
                Checks.same("as after passNights(" + nights + ")", x.fadedAfter(nights), due);
            }
        }
    }

    private static void fadedAfterChangesNothing() {
        Document.promise(39, FADED_AFTER);
        Twins.unchanged("fadedAfter(1)", Ledgers.SMALL, x -> x.fadedAfter(1));
        Twins.unchanged("fadedAfter(30)", Ledgers.FULL, x -> x.fadedAfter(30));
    }

    private static void fadedAfterHowMany() {
        Document.promise(39, "Throws `IllegalArgumentException` if nights is not 1 to 30");
        DreamLedger x = Ledgers.withDreams();
        Checks.same("1", x.fadedAfter(1), 0);
        Checks.same("30", x.fadedAfter(30), 3);
        for (int nights : new int[] {-30, -1, 0, 31}) {
            Twins.noArgument("nights " + nights, Ledgers.SMALL, y -> y.fadedAfter(nights));
            Twins.noArgument("of none, nights " + nights, Ledgers.EMPTY, y -> y.fadedAfter(nights));
        }
        for (int nights : new int[] {32, 62, 1000, 256 + 5, Integer.MIN_VALUE, Integer.MAX_VALUE}) {
            Twins.noArgument("nights " + nights, Ledgers.FULL, y -> y.fadedAfter(nights));
        }
    }

    private static final String IF_UNDER = "Returns how many dreams the term would match, if the tag was put under";

    private static void matchesIfUnder() {
        Document.promise(40, IF_UNDER);
        DreamLedger x = Ledgers.withTags(16);
        for (int dream = 0; dream < 24; dream++) {
            x.addDream(0, 5);
        }
        x.addTagTerm(15);
        x.addWithoutTerm(0);
        Checks.same("all, from none", x.matchesIfUnder(0, 0, 15), 24);
        Checks.same("none still", x.matchesIfUnder(0, 0, 14), 0);
        Checks.same("none still, put the other way", x.matchesIfUnder(0, 15, 0), 0);
        Checks.same("none, from all", x.matchesIfUnder(1, 0, 15), 0);
        x.putUnder(0, 15);
        Checks.same("all, under the parent that it has", x.matchesIfUnder(0, 0, 15), 24);
        Checks.same("none, under another parent", x.matchesIfUnder(0, 0, 14), 0);
        x.putUnder(14, 15);
        Checks.same("all, by another one under the same", x.matchesIfUnder(0, 0, 14), 24);
    }

    private static void matchesIfUnderAsPutUnder() {
        Document.promise(40, IF_UNDER);
        for (Ledgers.Start start : new Ledgers.Start[] {Ledgers.SMALL, Ledgers.FULL}) {
            int tags = start.make().tags();
            int terms = start.make().terms();
            for (int tag = 0; tag < tags; tag++) {
                for (int parent = 0; parent < tags; parent++) {
                    DreamLedger x = start.make();
                    if (tag != parent && !x.isBelow(parent, tag)) {
                        DreamLedger then = start.make();
                        then.putUnder(tag, parent);
                        sameMatches("as behind putUnder(" + tag + ", " + parent + ")", x, then, terms, tag, parent);
                    }
                }
            }
        }
    }

    private static void sameMatches(String what, DreamLedger x, DreamLedger then, int terms, int tag, int parent) {
        for (int term = 0; term < terms; term++) {
            Checks.same(what + ", term " + term, x.matchesIfUnder(term, tag, parent), then.matchesOf(term));
        }
    }

    private static void matchesIfUnderChangesNothing() {
        Document.promise(40, IF_UNDER);
        Twins.unchanged("a tag without a parent", Ledgers.SMALL, x -> x.matchesIfUnder(0, 4, 0));
        Twins.unchanged("a tag with a parent", Ledgers.SMALL, x -> x.matchesIfUnder(0, 1, 5));
        Twins.unchanged("a tag with all below it", Ledgers.FULL, x -> x.matchesIfUnder(19, 0, 15));
    }

    private static void matchesIfUnderNoTermOrTag() {
        Document.promise(40, NO_TERM_OR_TAG);
        Numbers.ofTerms("matchesIfUnder, term", (x, term) -> x.matchesIfUnder(term, 0, Math.min(1, x.tags() - 1)));
        Numbers.ofTags("matchesIfUnder, tag", (x, tag) -> x.matchesIfUnder(0, tag, 0));
        Numbers.ofTags("matchesIfUnder, parent", (x, tag) -> x.matchesIfUnder(0, 0, tag));
        Numbers.ofTags("matchesIfUnder, both", (x, tag) -> x.matchesIfUnder(0, tag, tag));
        Numbers.ofTerms("matchesIfUnder, the same tag", (x, term) -> x.matchesIfUnder(term, 0, 0));
    }

    private static void matchesIfUnderTheSame() {
        Document.promise(40, "Throws `IllegalArgumentException` if both tags are the same");
        Twins.noArgument("the only tag", Ledgers.ONE, x -> x.matchesIfUnder(0, 0, 0));
        for (int tag = 0; tag < 16; tag++) {
            int each = tag;
            Twins.noArgument("tag " + tag, Ledgers.FULL, x -> x.matchesIfUnder(19, each, each));
        }
        Checks.same("the next one", Ledgers.withDreams().matchesIfUnder(0, 3, 4), 2);
    }

    private static void matchesIfUnderOneBelow() {
        Document.promise(40, "Throws `IllegalStateException` if the parent is below the tag");
        Twins.noState("just below", Ledgers.SMALL, x -> x.matchesIfUnder(0, 1, 3));
        Twins.noState("two below", Ledgers.SMALL, x -> x.matchesIfUnder(0, 0, 3));
        Ledgers.Start line = () -> {
            DreamLedger x = Ledgers.longLine();
            x.addTagTerm(0);
            return x;
        };
        for (int below = 0; below < 15; below++) {
            int each = below;
            Twins.noState("below the highest, " + below, line, x -> x.matchesIfUnder(0, 15, each));
        }
        DreamLedger x = Ledgers.withDreams();
        Checks.same("beside it", x.matchesIfUnder(0, 1, 2), 3);
        Checks.same("its parent", x.matchesIfUnder(0, 1, 0), 3);
        Checks.same("in another tree", x.matchesIfUnder(4, 0, 5), 4);
    }

    private static final String BEST = "Returns the tag under which this one had best be put, so that the term";

    private static void bestParentOfTheMost() {
        Document.promise(41, BEST);
        DreamLedger x = Ledgers.withTags(16);
        x.addDream(7, 5);
        x.addTagTerm(0);
        x.addTagTerm(15);
        Checks.same("the first tag", x.bestParent(0, 7), 0);
        Checks.same("the last tag", x.bestParent(1, 7), 15);
        DreamLedger y = Ledgers.withTags(4);
        y.addDream(0, 5);
        y.addDream(1, 5);
        y.addDream(3, 5);
        y.addTagTerm(1);
        y.addTagTerm(2);
        y.addEitherTerm(0, 1);
        y.putUnder(1, 2);
        Checks.same("of 1 more for each, the smallest", y.bestParent(2, 0), 1);
        y.putUnder(3, 0);
        y.addWithoutTerm(0);
        y.addBothTerm(1, 3);
        Checks.same("none but the greater number gives more", y.bestParent(4, 0), 2);
        DreamLedger z = Ledgers.withTags(4);
        z.addDream(0, 5);
        z.addDream(0, 5);
        z.addDream(1, 5);
        z.tagDream(2, 0);
        z.addTagTerm(2);
        z.addTagTerm(3);
        z.addTagTerm(1);
        z.addBothTerm(0, 2);
        z.addEitherTerm(3, 1);
        Checks.same("3 rather than 1", z.bestParent(4, 0), 3);
    }

    private static void bestParentOfSeveral() {
        Document.promise(41, BEST);
        DreamLedger x = Ledgers.withTags(16);
        x.addDream(5, 5);
        x.addTagTerm(15);
        x.putUnder(14, 15);
        x.putUnder(3, 14);
        x.putUnder(9, 15);
        Checks.same("the smallest of four", x.bestParent(0, 5), 3);
        x.freeTag(3);
        Checks.same("the smallest of three", x.bestParent(0, 5), 9);
        x.freeTag(9);
        Checks.same("the smallest of two", x.bestParent(0, 5), 14);
        x.freeTag(14);
        Checks.same("the only one", x.bestParent(0, 5), 15);
    }

    private static void bestParentNotMore() {
        Document.promise(41, BEST);
        Checks.same("no other tag", Ledgers.withOne().bestParent(0, 0), -1);
        DreamLedger x = Ledgers.withTags(3);
        x.addTagTerm(2);
        x.addWithoutTerm(0);
        Checks.same("no dream", x.bestParent(0, 1), -1);
        x.addDream(1, 5);
        Checks.same("1 more", x.bestParent(0, 1), 2);
        Checks.same("1 less, of a without term", x.bestParent(1, 1), -1);
        x.putUnder(1, 2);
        Checks.same("as many as now, under the parent that it has", x.bestParent(0, 1), -1);
        Checks.same("1 more, of a without term", x.bestParent(1, 1), 0);
        x.tagDream(0, 2);
        Checks.same("as many as now, under all", x.bestParent(1, 1), -1);
        Checks.same("as many as now, none has that tag", x.bestParent(1, 0), -1);
    }

    private static void bestParentWhereItCanBePut() {
        Document.promise(41, BEST);
        DreamLedger x = Ledgers.withTags(16);
        x.addDream(0, 5);
        x.putUnder(15, 0);
        x.addTagTerm(15);
        Checks.same("the only better one is just below it", x.bestParent(0, 0), -1);
        x.putUnder(15, 7);
        x.putUnder(7, 0);
        Checks.same("the only better one is far below it", x.bestParent(0, 0), -1);
        x.freeTag(15);
        Checks.same("it is below it no longer", x.bestParent(0, 0), 15);
        x.putUnder(3, 15);
        x.putUnder(1, 15);
        x.putUnder(15, 2);
        x.putUnder(0, 1);
        Checks.same("it has it now", x.bestParent(0, 0), -1);
    }

    private static void bestParentAsMatchesIfUnder() {
        Document.promise(41, BEST);
        for (Ledgers.Start start : new Ledgers.Start[] {Ledgers.SMALL, Ledgers.FULL}) {
            int tags = start.make().tags();
            int terms = start.make().terms();
            for (int term = 0; term < terms; term++) {
                for (int tag = 0; tag < tags; tag++) {
                    Checks.same("bestParent(" + term + ", " + tag + ")",
                            start.make().bestParent(term, tag), bestOfAll(start.make(), tags, term, tag));
                }
            }
        }
    }

    private static int bestOfAll(DreamLedger x, int tags, int term, int tag) {
        int best = -1;
        int most = x.matchesOf(term);
        for (int parent = 0; parent < tags; parent++) {
            if (parent != tag && !x.isBelow(parent, tag)) {
                int count = x.matchesIfUnder(term, tag, parent);
                best = count > most ? parent : best;
                most = Math.max(most, count);
            }
        }
        return best;
    }

    private static void bestParentChangesNothing() {
        Document.promise(41, BEST);
        Twins.unchanged("a tag without a parent", Ledgers.SMALL, x -> x.bestParent(4, 0));
        Twins.unchanged("a tag with a parent", Ledgers.SMALL, x -> x.bestParent(4, 1));
        Twins.unchanged("a full ledger", Ledgers.FULL, x -> x.bestParent(7, 5));
    }

    private static void bestParentNoTermOrTag() {
        Document.promise(41, NO_TERM_OR_TAG);
        Numbers.ofTerms("bestParent", (x, term) -> x.bestParent(term, 0));
        Numbers.ofTags("bestParent", (x, tag) -> x.bestParent(0, tag));
    }

    private static final String MEAN = "Returns the mean vividness of all dreams; 0 without any.";

    private static void meanVividness() {
        Document.promise(42, MEAN);
        DreamLedger x = Ledgers.withTags(1);
        x.addDream(0, 9);
        Checks.same("one of 9", x.meanVividness(), 9.0);
        x.recall(0, 0);
        Checks.same("one of 0", x.meanVividness(), 0.0);
        x.addDream(0, 1);
        Checks.same("a half", x.meanVividness(), 0.5);
        x.addDream(0, 1);
        Checks.same("two thirds", x.meanVividness(), 2.0 / 3);
        for (int dream = 3; dream < 24; dream++) {
            x.addDream(0, 9);
        }
        Checks.same("24", x.meanVividness(), 191.0 / 24);
        x.recall(23, 0);
        Checks.same("24, the last one faded", x.meanVividness(), 182.0 / 24);
        for (int dream = 0; dream < 24; dream++) {
            x.recall(dream, 9);
        }
        Checks.same("24 of 9", x.meanVividness(), 9.0);
    }

    private static void meanVividnessWithoutAny() {
        Document.promise(42, MEAN);
        Checks.same("no dream", new DreamLedger().meanVividness(), 0.0);
        DreamLedger x = Ledgers.withTags(16);
        x.addTagTerm(0);
        x.passNights(30);
        Checks.same("no dream, but tags, a term and nights", x.meanVividness(), 0.0);
    }

    private static final String DIGEST = "A number d starts with 1867; for each of the following numbers x,";

    private static void digestOfNothing() {
        Document.promise(43, "Computes a checksum.");
        Checks.same("five zeros", new DreamLedger().digest(), digestOf(0, 0, 0, 0, 0));
        DreamLedger x = new DreamLedger();
        x.passNights(30);
        Checks.same("nights alone", x.digest(), digestOf(0, 0, 0, 30, 0));
    }

    private static void digestNumberByNumber() {
        Document.promise(43, DIGEST);
        DreamLedger x = Ledgers.withTags(1);
        Checks.same("one tag, -1 without a parent", x.digest(), digestOf(1, 0, 0, 0, 0, -1, 0, 0, 0));
        x.addTagTerm(0);
        Checks.same("a term without a dream, -1 for the most vivid",
                x.digest(), digestOf(1, 0, 1, 0, 0, -1, 0, 0, 0, 0, -1, 0, 0));
        x.addTag();
        x.putUnder(1, 0);
        x.passNights(4);
        x.addDream(1, 7);
        x.addTagTerm(1);
        x.addWithoutTerm(1);
        x.addDream(0, 3);
        x.recall(0, 0);
        long[] due = {
            2, 2, 3, 4, 1,
            -1, 0, 1, 2, 0, 1, 0, 1,
            2, 0, 4, 0, 1, 1, 3, 4, 1, 0,
            2, 1, 1, 1, 0, 1, 1, 1, 0, 2, 1, 0, 1, 0, 1, 1, 1, 1, 0, 0, 1};
        Checks.same("tags, dreams and terms", x.digest(), digestOf(due));
        DreamLedger y = Ledgers.withOwnTags(3, new int[][] {{1}, {2}});
        long[] two = {
            3, 2, 3, 0, 0,
            -1, 0, 0, 0, -1, 0, 0, 1, -1, 0, 0, 1,
            1, 5, 0, 0, 1, 0, 1, 5, 0, 0, 0, 1,
            0, -1, 0, 0, 0, 0, 2, 0, 0, 2, 1, 2, 1, 1, 2, 0, 0, 2, 1, 2, 1, 1};
        Checks.same("a cover of two tags", y.digest(), digestOf(two));
    }

    private static void digestWrapsAround() {
        Document.promise(43, DIGEST);
        BigInteger d = told(Ledgers.FULL);
        Checks.same("it is beyond 64 bits", d.bitLength() > 1000, true);
        Checks.same("its last 64 bits", Ledgers.full().digest(), d.longValue());
        boolean negative = false;
        for (int nights = 1; nights <= 30; nights++) {
            int each = nights;
            Ledgers.Start start = () -> {
                DreamLedger x = Ledgers.withTags(3);
                x.passNights(each);
                return x;
            };
            long digest = start.make().digest();
            Checks.same("the last 64 bits, night " + nights, digest, told(start).longValue());
            negative |= digest < 0;
        }
        Checks.same("some are below 0", negative, true);
    }

    private static void digestAgain() {
        Document.promise(43, "Returns d.");
        DreamLedger x = Ledgers.full();
        long first = x.digest();
        Checks.same("asked again", x.digest(), first);
        Checks.same("of a twin", Ledgers.full().digest(), first);
        Twins.unchanged("digest", Ledgers.FULL, DreamLedger::digest);
        x.recall(0, 9);
        Checks.same("another one behind a change", x.digest() == first, false);
    }

    private static long digestOf(long... numbers) {
        long d = 1867;
        for (long each : numbers) {
            d = d * 31 + each;
        }
        return d;
    }

    /** The checksum by a ledger's other answers, without any wrap-around; no ledger is asked too often. */
    private static BigInteger told(Ledgers.Start start) {
        DreamLedger x = start.make();
        int dreams = x.dreams();
        int terms = x.terms();
        BigInteger d = BigInteger.valueOf(1867);
        d = more(d, x.tags(), dreams, terms, x.nights(), x.fadedDreams());
        for (int tag = 0; tag < x.tags(); tag++) {
            int parent = x.hasParent(tag) ? x.parentOf(tag) : -1;
            d = more(d, parent, x.tagsAbove(tag), x.tagsBelow(tag), x.dreamsWith(tag));
        }
        for (int dream = 0; dream < dreams; dream++) {
            d = toldOfDream(d, start.make(), dream);
        }
        for (int term = 0; term < terms; term++) {
            d = toldOfTerm(d, start.make(), term);
        }
        return d;
    }

    private static BigInteger toldOfDream(BigInteger start, DreamLedger x, int dream) {
        BigInteger d = more(start, x.tagsOf(dream), x.vividnessOf(dream), x.nightOf(dream));
        for (int tag = 0; tag < x.tags(); tag++) {
            d = more(d, x.hasOwnTag(dream, tag) ? 1 : 0);
        }
        return d;
    }

    private static BigInteger toldOfTerm(BigInteger start, DreamLedger x, int term) {
        int size = x.coverSize(term);
        BigInteger d = more(start, x.matchesOf(term), x.mostVivid(term), x.commonTags(term), size);
        for (int place = 0; place < size; place++) {
            d = more(d, x.coverTag(term, place));
        }
        for (int dream = 0; dream < x.dreams(); dream++) {
            d = more(d, x.matches(term, dream) ? 1 : 0);
        }
        return d;
    }

    private static BigInteger more(BigInteger start, int... numbers) {
        BigInteger d = start;
        for (int each : numbers) {
            d = d.multiply(BigInteger.valueOf(31)).add(BigInteger.valueOf(each));
        }
        return d;
    }
}
