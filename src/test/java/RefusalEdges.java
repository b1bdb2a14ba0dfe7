/** The two sentences of "Terms" on exceptions: a refused call changes nothing, and the first named is thrown. */
final class RefusalEdges {
    private static final String NOTHING = "A method that throws an exception changes nothing.";
    private static final String FIRST = "If several exceptions apply, the one that is named first is thrown.";
    private static final Ledgers.Start[] STARTS = {Ledgers.EMPTY, Ledgers.ONE, Ledgers.SMALL, Ledgers.FULL};

    private RefusalEdges() {
    }

    static void all() {
        Checks.run(RefusalEdges::refusedTagsChangeNothing);
        Checks.run(RefusalEdges::refusedDreamsChangeNothing);
        Checks.run(RefusalEdges::refusedTermsChangeNothing);
        Checks.run(RefusalEdges::refusedQuestionsChangeNothing);
        Checks.run(RefusalEdges::refusedInAFullLedger);
        Checks.run(RefusalEdges::changesBehindRefusals);
        Checks.run(RefusalEdges::indexBeforeArgument);
        Checks.run(RefusalEdges::indexBeforeState);
        Checks.run(RefusalEdges::indexBeforeFull);
        Checks.run(RefusalEdges::argumentBeforeState);
        Checks.run(RefusalEdges::allThree);
    }

    private static void refused(Checks.Call call) {
        Checks.same("a call is refused", Checks.thrownBy(call).equals("nothing"), false);
    }

    private static void unchangedBy(String what, Ledgers.Use refusedCalls) {
        for (Ledgers.Start start : STARTS) {
            Twins.unchanged(what, start, refusedCalls);
        }
    }

    private static void refusedTagsChangeNothing() {
        Document.terms(NOTHING);
        unchangedBy("tags", RefusalEdges::refuseTags);
    }

    private static void refuseTags(DreamLedger x) {
        int none = x.tags();
        refused(() -> x.putUnder(0, none));
        refused(() -> x.putUnder(none, 0));
        refused(() -> x.putUnder(-1, 0));
        refused(() -> x.putUnder(0, -1));
        refused(() -> x.putUnder(0, 0));
        refused(() -> x.putUnder(none - 1, none - 1));
        refused(() -> x.freeTag(none));
        refused(() -> x.freeTag(-1));
        refused(() -> x.freeTag(0));
    }

    private static void refusedDreamsChangeNothing() {
        Document.terms(NOTHING);
        unchangedBy("dreams", RefusalEdges::refuseDreams);
    }

    private static void refuseDreams(DreamLedger x) {
        int noTag = x.tags();
        int none = x.dreams();
        refused(() -> x.addDream(noTag, 5));
        refused(() -> x.addDream(-1, 5));
        refused(() -> x.addDream(0, 0));
        refused(() -> x.addDream(0, 10));
        refused(() -> x.tagDream(none, 0));
        refused(() -> x.tagDream(0, noTag));
        refused(() -> x.tagDream(0, -1));
        refused(() -> x.untagDream(none, 0));
        refused(() -> x.untagDream(0, noTag));
        refused(() -> x.untagDream(-1, 0));
        refused(() -> x.untagDream(none - 1, noTag - 1));
        refused(() -> x.recall(none, 5));
        refused(() -> x.recall(-1, 5));
        refused(() -> x.recall(0, -1));
        refused(() -> x.recall(0, 10));
        refused(() -> x.passNights(0));
        refused(() -> x.passNights(31));
        refused(() -> x.passNights(-1));
    }

    private static void refusedTermsChangeNothing() {
        Document.terms(NOTHING);
        unchangedBy("terms", RefusalEdges::refuseTerms);
    }

    private static void refuseTerms(DreamLedger x) {
        int noTag = x.tags();
        int none = x.terms();
        refused(() -> x.addTagTerm(noTag));
        refused(() -> x.addTagTerm(-1));
        refused(() -> x.addBothTerm(none, 0));
        refused(() -> x.addBothTerm(0, none));
        refused(() -> x.addBothTerm(0, -1));
        refused(() -> x.addEitherTerm(none, 0));
        refused(() -> x.addEitherTerm(0, none));
        refused(() -> x.addEitherTerm(-1, 0));
        refused(() -> x.addWithoutTerm(none));
        refused(() -> x.addWithoutTerm(-1));
    }

    private static void refusedQuestionsChangeNothing() {
        Document.terms(NOTHING);
        unchangedBy("questions", RefusalEdges::refuseQuestions);
    }

    private static void refuseQuestions(DreamLedger x) {
        int noTag = x.tags();
        int noDream = x.dreams();
        int noTerm = x.terms();
        refused(() -> x.parentOf(0));
        refused(() -> x.tagsAbove(noTag));
        refused(() -> x.nearestAbove(noTag, 0));
        refused(() -> x.hasTag(noDream, 0));
        refused(() -> x.vividnessOf(noDream));
        refused(() -> x.matches(noTerm, 0));
        refused(() -> x.mostVivid(noTerm));
        refused(() -> x.coverSize(noTerm));
        refused(() -> x.coverTag(0, 16));
        refused(() -> x.coverTag(0, -1));
        refused(() -> x.fadedAfter(0));
        refused(() -> x.fadedAfter(31));
        refused(() -> x.matchesIfUnder(0, 0, 0));
        refused(() -> x.matchesIfUnder(noTerm, 0, 0));
        refused(() -> x.matchesIfUnder(0, 0, noTag));
        refused(() -> x.bestParent(0, noTag));
        refused(() -> x.bestParent(noTerm, 0));
    }

    private static void refusedInAFullLedger() {
        Document.terms(NOTHING);
        Twins.unchanged("what there is no room for", Ledgers.FULL, x -> {
            refused(x::addTag);
            refused(() -> x.addDream(0, 5));
            refused(() -> x.addTagTerm(0));
            refused(() -> x.addBothTerm(0, 1));
            refused(() -> x.addEitherTerm(0, 1));
            refused(() -> x.addWithoutTerm(0));
            refused(() -> x.putUnder(0, 1));
            refused(() -> x.putUnder(0, 11));
            refused(() -> x.freeTag(15));
            refused(() -> x.tagDream(3, 15));
            refused(() -> x.untagDream(3, 15));
            refused(() -> x.untagDream(3, 0));
            refused(() -> x.matchesIfUnder(0, 0, 11));
        });
    }

    private static void changesBehindRefusals() {
        Document.terms(NOTHING);
        DreamLedger x = new DreamLedger();
        refuseTags(x);
        Checks.same("the first tag", x.addTag(), 0);
        refuseDreams(x);
        Checks.same("the first dream", x.addDream(0, 9), 0);
        refuseTerms(x);
        Checks.same("the first term", x.addTagTerm(0), 0);
        Checks.same("it matches the first dream", x.matchesOf(0), 1);
        refuseDreams(x);
        Checks.same("no night went by", x.nights(), 0);
        Checks.same("the second dream", x.addDream(0, 9), 1);
        Checks.same("written down in the first night", x.nightOf(1), 0);
    }

    private static void indexBeforeArgument() {
        Document.terms(FIRST);
        Twins.noIndex("putUnder: no such tag, the same", Ledgers.SMALL, x -> x.putUnder(6, 6));
        Twins.noIndex("putUnder: no such tag, the same", Ledgers.FULL, x -> x.putUnder(16, 16));
        Twins.noIndex("putUnder: no such tag, the same", Ledgers.FULL, x -> x.putUnder(-1, -1));
        Twins.noIndex("addDream: no such tag, vividness 0", Ledgers.SMALL, x -> x.addDream(6, 0));
        Twins.noIndex("addDream: no such tag, vividness 10", Ledgers.SMALL, x -> x.addDream(-1, 10));
        Twins.noIndex("recall: no such dream, vividness -1", Ledgers.SMALL, x -> x.recall(4, -1));
        Twins.noIndex("recall: no such dream, vividness 10", Ledgers.FULL, x -> x.recall(-1, 10));
        Twins.noIndex("matchesIfUnder: no such term, the same", Ledgers.SMALL, x -> x.matchesIfUnder(6, 0, 0));
        Twins.noIndex("matchesIfUnder: no such term, the same", Ledgers.FULL, x -> x.matchesIfUnder(-1, 0, 0));
        Twins.noIndex("matchesIfUnder: no such tag, the same", Ledgers.SMALL, x -> x.matchesIfUnder(0, 6, 6));
    }

    private static void indexBeforeState() {
        Document.terms(FIRST);
        Twins.noIndex("freeTag: no such tag, so without a parent", Ledgers.SMALL, x -> x.freeTag(6));
        Twins.noIndex("parentOf: no such tag, so without a parent", Ledgers.SMALL, x -> x.parentOf(6));
        Twins.noIndex("untagDream: no such tag, so none of its own", Ledgers.SMALL, x -> x.untagDream(1, 6));
        Twins.noIndex("untagDream: no such tag, so none of its own", Ledgers.SMALL, x -> x.untagDream(3, 32));
        Twins.noIndex("tagDream: no such tag, 32 beyond its own", Ledgers.SMALL, x -> x.tagDream(3, 32));
        Twins.noIndex("matchesIfUnder: no such term, one below", Ledgers.SMALL, x -> x.matchesIfUnder(6, 0, 3));
        Twins.noIndex("matchesIfUnder: no such term, one below", Ledgers.FULL, x -> x.matchesIfUnder(-1, 0, 11));
    }

    private static void indexBeforeFull() {
        Document.terms(FIRST);
        Twins.noIndex("addDream: no such tag, 24 dreams", Ledgers.FULL, x -> x.addDream(16, 5));
        Twins.noIndex("addTagTerm: no such tag, 20 terms", Ledgers.FULL, x -> x.addTagTerm(16));
        Twins.noIndex("addTagTerm: no such tag, 20 terms", Ledgers.FULL, x -> x.addTagTerm(-1));
        Twins.noIndex("addBothTerm: no such first term, 20 terms", Ledgers.FULL, x -> x.addBothTerm(20, 0));
        Twins.noIndex("addBothTerm: no such second term, 20 terms", Ledgers.FULL, x -> x.addBothTerm(0, 20));
        Twins.noIndex("addEitherTerm: no such first term, 20 terms", Ledgers.FULL, x -> x.addEitherTerm(20, 0));
        Twins.noIndex("addEitherTerm: no such second term, 20 terms", Ledgers.FULL, x -> x.addEitherTerm(0, 20));
        Twins.noIndex("addWithoutTerm: no such term, 20 terms", Ledgers.FULL, x -> x.addWithoutTerm(20));
        Twins.noIndex("addWithoutTerm: no such term, 20 terms", Ledgers.FULL, x -> x.addWithoutTerm(-1));
    }

    private static void argumentBeforeState() {
        Document.terms(FIRST);
        Twins.noArgument("addDream: vividness 0, 24 dreams", Ledgers.FULL, x -> x.addDream(0, 0));
        Twins.noArgument("addDream: vividness 10, 24 dreams", Ledgers.FULL, x -> x.addDream(15, 10));
    }

    private static void allThree() {
        Document.terms(FIRST);
        Twins.noIndex("addDream: no such tag, vividness 0, 24 dreams", Ledgers.FULL, x -> x.addDream(16, 0));
        Twins.noIndex("addDream: no such tag, vividness 10, 24 dreams", Ledgers.FULL, x -> x.addDream(-1, 10));
    }
}
