/** Each promise by itself: ordinary inputs, the edges that the document names, and wrong inputs. */
public final class PromiseTests {
    private PromiseTests() {
    }

    public static void main(String[] args) {
        promise01NewObject();
        promise02AddTag();
        promise03PutUnder();
        promise04FreeTag();
        promise05AddDream();
        promise06TagDream();
        promise07UntagDream();
        promise08Recall();
        promise09PassNights();
        promise10AddTagTerm();
        promise11AddBothTerm();
        promise12AddEitherTerm();
        promise13AddWithoutTerm();
        promise14ClearTerms();
        promise15HasParent();
        promise16ParentOf();
        promise17TagsAbove();
        promise18TagsBelow();
        promise19IsBelow();
        promise20NearestAbove();
        promise21DreamsWith();
        promise22HasOwnTag();
        promise23HasTag();
        promise24TagsOf();
        promise25VividnessOf();
        promise26NightOf();
        promise27Matches();
        promise28MatchesOf();
        promise29MostVivid();
        promise30CommonTags();
        promise31MatchSame();
        promise32CoverSize();
        promise33CoverTag();
        promise34To37Counts();
        promise38FadedDreams();
        promise39FadedAfter();
        promise40MatchesIfUnder();
        promise41BestParent();
        promise42MeanVividness();
        promise43Digest();
        fullLedger();
        Checks.end();
    }

    private static void promise01NewObject() {
        DreamLedger x = new DreamLedger();
        Checks.same("new: tags", x.tags(), 0);
        Checks.same("new: dreams", x.dreams(), 0);
        Checks.same("new: terms", x.terms(), 0);
        Checks.same("new: nights", x.nights(), 0);
        Checks.same("new: fadedDreams", x.fadedDreams(), 0);
        Checks.same("new: meanVividness", x.meanVividness(), 0.0);
        Checks.same("new: clearTerms", x.clearTerms(), 0);
        Checks.same("new: fadedAfter", x.fadedAfter(30), 0);
        Checks.same("new: passNights", x.passNights(1), 0);
        DreamLedger other = new DreamLedger();
        other.addTag();
        Checks.same("a new object does not share tags", new DreamLedger().tags(), 0);
        Checks.noIndex("new: tagsAbove(0)", x, () -> x.tagsAbove(0));
        Checks.noIndex("new: vividnessOf(0)", x, () -> x.vividnessOf(0));
        Checks.noIndex("new: matchesOf(0)", x, () -> x.matchesOf(0));
    }

    private static void promise02AddTag() {
        DreamLedger x = new DreamLedger();
        for (int tag = 0; tag < 16; tag++) {
            Checks.same("addTag", x.addTag(), tag);
            Checks.same("a new tag has a parent", x.hasParent(tag), false);
            Checks.same("a new tag has tags above", x.tagsAbove(tag), 0);
        }
        Checks.noState("a 17th tag", x, x::addTag);
        Checks.same("tags after a refused one", x.tags(), 16);
    }

    private static void promise03PutUnder() {
        DreamLedger x = Ledgers.withTags(6);
        Checks.same("putUnder(1, 0)", x.putUnder(1, 0), 1);
        Checks.same("putUnder(2, 1)", x.putUnder(2, 1), 2);
        Checks.same("putUnder(2, 1) again", x.putUnder(2, 1), 2);
        Checks.same("putUnder(2, 0), in the place of 1", x.putUnder(2, 0), 1);
        Checks.same("the new parent", x.parentOf(2), 0);
        x.putUnder(2, 1);
        Checks.same("putUnder(0, 5) takes those below along", x.putUnder(0, 5), 1);
        Checks.same("tagsAbove(2) then", x.tagsAbove(2), 3);
        Checks.noArgument("under itself", x, () -> x.putUnder(2, 2));
        Checks.noState("under one just below", x, () -> x.putUnder(0, 1));
        Checks.noState("under one far below", x, () -> x.putUnder(5, 2));
        for (int never : Checks.NEVER) {
            Checks.noIndex("putUnder, tag " + never, x, () -> x.putUnder(never, 0));
            Checks.noIndex("putUnder, parent " + never, x, () -> x.putUnder(0, never));
            Checks.noIndex("putUnder, both " + never, x, () -> x.putUnder(never, never));
        }
        Checks.noIndex("putUnder, the first number without a tag", x, () -> x.putUnder(6, 0));
        Checks.noIndex("putUnder, the first number without a tag", x, () -> x.putUnder(0, 6));
        DreamLedger y = Ledgers.withDreams();
        y.putUnder(0, 5);
        Checks.same("what dreams have follows", y.dreamsWith(4), 4);
        Checks.same("what terms match follows", y.matchesOf(4), 4);
        y.putUnder(0, 4);
        Checks.same("and follows back", y.matchesOf(5), 1);
    }

    private static void promise04FreeTag() {
        DreamLedger x = Ledgers.withDreams();
        Checks.same("freeTag(3)", x.freeTag(3), 1);
        Checks.same("hasParent(3) then", x.hasParent(3), false);
        Checks.same("tagsAbove(3) then", x.tagsAbove(3), 0);
        Checks.same("tagsOf(0) then", x.tagsOf(0), 3);
        Checks.same("matchesOf(1) then", x.matchesOf(1), 0);
        Checks.noState("freeTag(3) again", x, () -> x.freeTag(3));
        Checks.noState("freeTag without a parent", x, () -> x.freeTag(0));
        Checks.same("freeTag(1)", x.freeTag(1), 0);
        for (int never : Checks.NEVER) {
            Checks.noIndex("freeTag " + never, x, () -> x.freeTag(never));
        }
        Checks.noIndex("freeTag, the first number without a tag", x, () -> x.freeTag(6));
    }

    private static void promise05AddDream() {
        DreamLedger x = Ledgers.withTags(3);
        x.addTagTerm(2);
        Checks.same("addDream", x.addDream(2, 1), 0);
        Checks.same("its own tag", x.hasOwnTag(0, 2), true);
        Checks.same("another tag", x.hasOwnTag(0, 0), false);
        Checks.same("its vividness", x.vividnessOf(0), 1);
        Checks.same("a term matches it", x.matchesOf(0), 1);
        Checks.same("addDream", x.addDream(0, 9), 1);
        Checks.same("its vividness", x.vividnessOf(1), 9);
        int[] dull = {0, 10, -1, 11, Integer.MIN_VALUE, Integer.MAX_VALUE};
        for (int wrong : dull) {
            Checks.noArgument("addDream, vividness " + wrong, x, () -> x.addDream(0, wrong));
            Checks.noIndex("addDream, no tag and vividness " + wrong, x, () -> x.addDream(3, wrong));
        }
        for (int never : Checks.NEVER) {
            Checks.noIndex("addDream, tag " + never, x, () -> x.addDream(never, 5));
        }
        for (int dream = 2; dream < 24; dream++) {
            Checks.same("addDream", x.addDream(1, 5), dream);
        }
        Checks.noState("a 25th dream", x, () -> x.addDream(0, 5));
        Checks.noArgument("a 25th dream, vividness 0", x, () -> x.addDream(0, 0));
        Checks.noIndex("a 25th dream, no tag", x, () -> x.addDream(3, 0));
        Checks.same("dreams after refused ones", x.dreams(), 24);
    }

    private static void promise06TagDream() {
        DreamLedger x = Ledgers.withDreams();
        Checks.same("tagDream(1, 4)", x.tagDream(1, 4), 2);
        Checks.same("tagDream(1, 5)", x.tagDream(1, 5), 3);
        Checks.same("tagDream, a tag above an own one", x.tagDream(1, 0), 4);
        Checks.same("hasOwnTag then", x.hasOwnTag(1, 4), true);
        Checks.same("a term matches it then", x.matches(5, 1), true);
        Checks.noState("tagDream, an own one", x, () -> x.tagDream(1, 2));
        for (int never : Checks.NEVER) {
            Checks.noIndex("tagDream, dream " + never, x, () -> x.tagDream(never, 0));
            Checks.noIndex("tagDream, tag " + never, x, () -> x.tagDream(0, never));
        }
        Checks.noIndex("tagDream, the first number without a dream", x, () -> x.tagDream(4, 0));
        Checks.noIndex("tagDream, the first number without a tag", x, () -> x.tagDream(0, 6));
    }

    private static void promise07UntagDream() {
        DreamLedger x = Ledgers.withDreams();
        x.tagDream(0, 0);
        Checks.same("untagDream(0, 5)", x.untagDream(0, 5), 2);
        Checks.same("hasOwnTag then", x.hasOwnTag(0, 5), false);
        Checks.same("a term matches it then", x.matches(4, 0), false);
        Checks.same("untagDream(0, 0)", x.untagDream(0, 0), 1);
        Checks.same("it is still above an own one", x.hasTag(0, 0), true);
        Checks.noState("untagDream, the only one", x, () -> x.untagDream(0, 3));
        Checks.noState("untagDream, none of its own", x, () -> x.untagDream(0, 5));
        Checks.noState("untagDream, above an own one", x, () -> x.untagDream(0, 1));
        for (int never : Checks.NEVER) {
            Checks.noIndex("untagDream, dream " + never, x, () -> x.untagDream(never, 0));
            Checks.noIndex("untagDream, tag " + never, x, () -> x.untagDream(0, never));
        }
        Checks.noIndex("untagDream, the first number without a dream", x, () -> x.untagDream(4, 0));
        Checks.noIndex("untagDream, the first number without a tag", x, () -> x.untagDream(0, 6));
    }

    private static void promise08Recall() {
        DreamLedger x = Ledgers.withDreams();
        Checks.same("recall(1, 0)", x.recall(1, 0), 8);
        Checks.same("recall(1, 9)", x.recall(1, 9), 0);
        Checks.same("recall(1, 9) again", x.recall(1, 9), 9);
        Checks.same("vividnessOf then", x.vividnessOf(1), 9);
        Checks.same("vividnessOf another one", x.vividnessOf(2), 8);
        int[] wrongs = {-1, 10, Integer.MIN_VALUE, Integer.MAX_VALUE};
        for (int wrong : wrongs) {
            Checks.noArgument("recall, vividness " + wrong, x, () -> x.recall(0, wrong));
            Checks.noIndex("recall, no dream and vividness " + wrong, x, () -> x.recall(4, wrong));
        }
        for (int never : Checks.NEVER) {
            Checks.noIndex("recall, dream " + never, x, () -> x.recall(never, 5));
        }
    }

    private static void promise09PassNights() {
        DreamLedger x = Ledgers.withTree();
        x.addDream(3, 2);
        x.addDream(0, 9);
        x.addDream(2, 1);
        x.addDream(1, 5);
        x.addDream(3, 1);
        x.tagDream(4, 2);
        Checks.same("a night", x.passNights(1), 0);
        Checks.same("shares an own tag", x.vividnessOf(0), 2);
        Checks.same("has only a tag above in common", x.vividnessOf(1), 8);
        Checks.same("shares another own tag", x.vividnessOf(2), 1);
        Checks.same("is above an own one of the latest", x.vividnessOf(3), 4);
        Checks.same("is the latest", x.vividnessOf(4), 1);
        Checks.same("five nights more", x.passNights(5), 1);
        Checks.same("faded, not less", x.vividnessOf(3), 0);
        x.recall(4, 0);
        Checks.same("thirty nights more", x.passNights(30), 3);
        Checks.same("nights", x.nights(), 36);
        x.addDream(5, 9);
        Checks.same("with another latest dream", x.passNights(2), 5);
        int[] wrongs = {0, -1, 31, Integer.MIN_VALUE, Integer.MAX_VALUE};
        for (int wrong : wrongs) {
            Checks.noArgument("passNights " + wrong, x, () -> x.passNights(wrong));
        }
        Checks.same("nights of no dreams", Ledgers.withTags(1).passNights(30), 0);
    }

    private static void promise10AddTagTerm() {
        DreamLedger x = Ledgers.withDreams();
        Checks.same("addTagTerm", x.addTagTerm(0), 6);
        Checks.same("addTagTerm of the same", x.addTagTerm(0), 7);
        Checks.same("matches those that have it", x.matchesOf(7), 3);
        for (int never : Checks.NEVER) {
            Checks.noIndex("addTagTerm " + never, x, () -> x.addTagTerm(never));
        }
        Checks.noIndex("addTagTerm, the first number without a tag", x, () -> x.addTagTerm(6));
        fillTerms(x);
        Checks.noState("a 21st tag term", x, () -> x.addTagTerm(0));
        Checks.noIndex("a 21st tag term without a tag", x, () -> x.addTagTerm(6));
    }

    private static void fillTerms(DreamLedger x) {
        while (x.terms() < 20) {
            int due = x.terms();
            Checks.same("addTagTerm", x.addTagTerm(1), due);
        }
    }

    private static void promise11AddBothTerm() {
        DreamLedger x = Ledgers.withDreams();
        Checks.same("addBothTerm(0, 4)", x.addBothTerm(0, 4), 6);
        Checks.same("matchesOf it", x.matchesOf(6), 1);
        Checks.same("matches 0", x.matches(6, 0), true);
        Checks.same("addBothTerm, the same", x.addBothTerm(4, 4), 7);
        Checks.same("matchesOf it", x.matchesOf(7), 2);
        for (int never : Checks.NEVER) {
            Checks.noIndex("addBothTerm, first " + never, x, () -> x.addBothTerm(never, 0));
            Checks.noIndex("addBothTerm, second " + never, x, () -> x.addBothTerm(0, never));
        }
        Checks.noIndex("addBothTerm of itself", x, () -> x.addBothTerm(8, 0));
        Checks.noIndex("addBothTerm of itself", x, () -> x.addBothTerm(0, 8));
        fillTerms(x);
        Checks.noState("a 21st both term", x, () -> x.addBothTerm(0, 19));
        Checks.noIndex("a 21st both term without a term", x, () -> x.addBothTerm(0, 20));
        Checks.noIndex("a 21st both term without a term", x, () -> x.addBothTerm(20, 0));
    }

    private static void promise12AddEitherTerm() {
        DreamLedger x = Ledgers.withDreams();
        Checks.same("addEitherTerm(1, 4)", x.addEitherTerm(1, 4), 6);
        Checks.same("matchesOf it", x.matchesOf(6), 2);
        Checks.same("matches 2", x.matches(6, 2), true);
        Checks.same("matches 3", x.matches(6, 3), false);
        Checks.same("addEitherTerm, the same", x.addEitherTerm(4, 4), 7);
        Checks.same("matchesOf it", x.matchesOf(7), 2);
        for (int never : Checks.NEVER) {
            Checks.noIndex("addEitherTerm, first " + never, x, () -> x.addEitherTerm(never, 0));
            Checks.noIndex("addEitherTerm, second " + never, x, () -> x.addEitherTerm(0, never));
        }
        Checks.noIndex("addEitherTerm of itself", x, () -> x.addEitherTerm(8, 0));
        Checks.noIndex("addEitherTerm of itself", x, () -> x.addEitherTerm(0, 8));
        fillTerms(x);
        Checks.noState("a 21st either term", x, () -> x.addEitherTerm(0, 19));
        Checks.noIndex("a 21st either term without a term", x, () -> x.addEitherTerm(0, 20));
        Checks.noIndex("a 21st either term without a term", x, () -> x.addEitherTerm(20, 0));
    }

    private static void promise13AddWithoutTerm() {
        DreamLedger x = Ledgers.withDreams();
        Checks.same("addWithoutTerm(4)", x.addWithoutTerm(4), 6);
        Checks.same("matchesOf it", x.matchesOf(6), 2);
        Checks.same("matches 0", x.matches(6, 0), false);
        Checks.same("matches 1", x.matches(6, 1), true);
        Checks.same("addWithoutTerm(6)", x.addWithoutTerm(6), 7);
        Checks.same("not without is with", x.matchSame(7, 4), true);
        x.addDream(1, 1);
        Checks.same("a later dream without it", x.matches(6, 4), true);
        for (int never : Checks.NEVER) {
            Checks.noIndex("addWithoutTerm " + never, x, () -> x.addWithoutTerm(never));
        }
        Checks.noIndex("addWithoutTerm of itself", x, () -> x.addWithoutTerm(8));
        fillTerms(x);
        Checks.noState("a 21st without term", x, () -> x.addWithoutTerm(19));
        Checks.noIndex("a 21st without term without a term", x, () -> x.addWithoutTerm(20));
        DreamLedger full = Ledgers.withTags(2);
        for (int dream = 0; dream < 24; dream++) {
            full.addDream(0, 1);
        }
        full.addTagTerm(1);
        full.addWithoutTerm(0);
        Checks.same("a without term of all dreams", full.matchesOf(1), 24);
    }

    private static void promise14ClearTerms() {
        DreamLedger x = Ledgers.withDreams();
        Checks.same("clearTerms", x.clearTerms(), 6);
        Checks.same("terms then", x.terms(), 0);
        Checks.noIndex("a term struck out", x, () -> x.matchesOf(0));
        Checks.noIndex("a both term of those struck out", x, () -> x.addBothTerm(0, 0));
        Checks.same("clearTerms again", x.clearTerms(), 0);
        Checks.same("the first new term", x.addTagTerm(4), 0);
        Checks.same("matchesOf it", x.matchesOf(0), 2);
        fillTerms(x);
        Checks.same("clearTerms of 20", x.clearTerms(), 20);
        Checks.same("dreams stay", x.dreams(), 4);
        Checks.same("tags stay", x.tags(), 6);
    }

    private static void promise15HasParent() {
        DreamLedger x = Ledgers.withTree();
        Checks.same("hasParent(0)", x.hasParent(0), false);
        Checks.same("hasParent(1), the parent is 0", x.hasParent(1), true);
        Checks.same("hasParent(5)", x.hasParent(5), true);
        for (int never : Checks.NEVER) {
            Checks.noIndex("hasParent " + never, x, () -> x.hasParent(never));
        }
        Checks.noIndex("hasParent, the first number without a tag", x, () -> x.hasParent(6));
    }

    private static void promise16ParentOf() {
        DreamLedger x = Ledgers.withTree();
        Checks.same("parentOf(1)", x.parentOf(1), 0);
        Checks.same("parentOf(3)", x.parentOf(3), 1);
        Checks.same("parentOf(5)", x.parentOf(5), 4);
        Checks.noState("parentOf without one", x, () -> x.parentOf(0));
        for (int never : Checks.NEVER) {
            Checks.noIndex("parentOf " + never, x, () -> x.parentOf(never));
        }
        Checks.noIndex("parentOf, the first number without a tag", x, () -> x.parentOf(6));
    }

    private static void promise17TagsAbove() {
        DreamLedger x = Ledgers.withTree();
        Checks.same("tagsAbove(0)", x.tagsAbove(0), 0);
        Checks.same("tagsAbove(1)", x.tagsAbove(1), 1);
        Checks.same("tagsAbove(3)", x.tagsAbove(3), 2);
        DreamLedger line = Ledgers.longLine();
        Checks.same("tagsAbove the lowest of 16", line.tagsAbove(0), 15);
        Checks.same("tagsAbove the highest of 16", line.tagsAbove(15), 0);
        for (int never : Checks.NEVER) {
            Checks.noIndex("tagsAbove " + never, x, () -> x.tagsAbove(never));
        }
        Checks.noIndex("tagsAbove, the first number without a tag", x, () -> x.tagsAbove(6));
    }

    private static void promise18TagsBelow() {
        DreamLedger x = Ledgers.withTree();
        Checks.same("tagsBelow(0)", x.tagsBelow(0), 3);
        Checks.same("tagsBelow(1)", x.tagsBelow(1), 1);
        Checks.same("tagsBelow(3)", x.tagsBelow(3), 0);
        DreamLedger line = Ledgers.longLine();
        Checks.same("tagsBelow the lowest of 16", line.tagsBelow(0), 0);
        Checks.same("tagsBelow the highest of 16", line.tagsBelow(15), 15);
        for (int never : Checks.NEVER) {
            Checks.noIndex("tagsBelow " + never, x, () -> x.tagsBelow(never));
        }
        Checks.noIndex("tagsBelow, the first number without a tag", x, () -> x.tagsBelow(6));
    }

    private static void promise19IsBelow() {
        DreamLedger x = Ledgers.withTree();
        Checks.same("isBelow its parent", x.isBelow(1, 0), true);
        Checks.same("isBelow the parent of that", x.isBelow(3, 0), true);
        Checks.same("isBelow one below it", x.isBelow(0, 3), false);
        Checks.same("isBelow itself", x.isBelow(3, 3), false);
        Checks.same("isBelow its sibling", x.isBelow(1, 2), false);
        Checks.same("isBelow one elsewhere", x.isBelow(5, 0), false);
        for (int never : Checks.NEVER) {
            Checks.noIndex("isBelow, first " + never, x, () -> x.isBelow(never, 0));
            Checks.noIndex("isBelow, second " + never, x, () -> x.isBelow(0, never));
        }
        Checks.noIndex("isBelow, the first number without a tag", x, () -> x.isBelow(6, 0));
        Checks.noIndex("isBelow, the first number without a tag", x, () -> x.isBelow(0, 6));
    }

    private static void promise20NearestAbove() {
        DreamLedger x = Ledgers.withTree();
        x.putUnder(0, 5);
        Checks.same("nearestAbove siblings", x.nearestAbove(1, 2), 0);
        Checks.same("nearestAbove at different heights", x.nearestAbove(2, 3), 0);
        Checks.same("nearestAbove, one above the other", x.nearestAbove(3, 1), 1);
        Checks.same("nearestAbove, one above the other", x.nearestAbove(0, 3), 0);
        Checks.same("nearestAbove, the same", x.nearestAbove(3, 3), 3);
        Checks.same("nearestAbove, the same without a parent", x.nearestAbove(4, 4), 4);
        x.freeTag(0);
        Checks.same("nearestAbove, none", x.nearestAbove(3, 5), -1);
        for (int never : Checks.NEVER) {
            Checks.noIndex("nearestAbove, first " + never, x, () -> x.nearestAbove(never, 0));
            Checks.noIndex("nearestAbove, second " + never, x, () -> x.nearestAbove(0, never));
        }
        Checks.noIndex("nearestAbove, the first number without a tag", x, () -> x.nearestAbove(6, 0));
        Checks.noIndex("nearestAbove, the first number without a tag", x, () -> x.nearestAbove(0, 6));
    }

    private static void promise21DreamsWith() {
        DreamLedger x = Ledgers.withDreams();
        Checks.same("dreamsWith(0)", x.dreamsWith(0), 3);
        Checks.same("dreamsWith(1)", x.dreamsWith(1), 1);
        Checks.same("dreamsWith(4)", x.dreamsWith(4), 2);
        x.addTag();
        Checks.same("dreamsWith a new tag", x.dreamsWith(6), 0);
        x.putUnder(4, 6);
        Checks.same("dreamsWith it, above another", x.dreamsWith(6), 2);
        for (int never : Checks.NEVER) {
            Checks.noIndex("dreamsWith " + never, x, () -> x.dreamsWith(never));
        }
        Checks.noIndex("dreamsWith, the first number without a tag", x, () -> x.dreamsWith(7));
    }

    private static void promise22HasOwnTag() {
        DreamLedger x = Ledgers.withDreams();
        Checks.same("hasOwnTag(0, 3)", x.hasOwnTag(0, 3), true);
        Checks.same("hasOwnTag(0, 5)", x.hasOwnTag(0, 5), true);
        Checks.same("hasOwnTag, one above an own one", x.hasOwnTag(0, 1), false);
        Checks.same("hasOwnTag, another one", x.hasOwnTag(0, 2), false);
        for (int never : Checks.NEVER) {
            Checks.noIndex("hasOwnTag, dream " + never, x, () -> x.hasOwnTag(never, 0));
            Checks.noIndex("hasOwnTag, tag " + never, x, () -> x.hasOwnTag(0, never));
        }
        Checks.noIndex("hasOwnTag, the first number without a dream", x, () -> x.hasOwnTag(4, 0));
        Checks.noIndex("hasOwnTag, the first number without a tag", x, () -> x.hasOwnTag(0, 6));
    }

    private static void promise23HasTag() {
        DreamLedger x = Ledgers.withDreams();
        Checks.same("hasTag, an own one", x.hasTag(0, 3), true);
        Checks.same("hasTag, one above", x.hasTag(0, 0), true);
        Checks.same("hasTag, one above another own one", x.hasTag(0, 4), true);
        Checks.same("hasTag, another one", x.hasTag(0, 2), false);
        Checks.same("hasTag, one below an own one", x.hasTag(3, 1), false);
        for (int never : Checks.NEVER) {
            Checks.noIndex("hasTag, dream " + never, x, () -> x.hasTag(never, 0));
            Checks.noIndex("hasTag, tag " + never, x, () -> x.hasTag(0, never));
        }
        Checks.noIndex("hasTag, the first number without a dream", x, () -> x.hasTag(4, 0));
        Checks.noIndex("hasTag, the first number without a tag", x, () -> x.hasTag(0, 6));
    }

    private static void promise24TagsOf() {
        DreamLedger x = Ledgers.withDreams();
        Checks.same("tagsOf(0)", x.tagsOf(0), 5);
        Checks.same("tagsOf(3)", x.tagsOf(3), 1);
        x.tagDream(0, 1);
        Checks.same("tagsOf counts a tag once", x.tagsOf(0), 5);
        DreamLedger line = Ledgers.longLine();
        line.addDream(0, 1);
        Checks.same("tagsOf, all 16", line.tagsOf(0), 16);
        for (int never : Checks.NEVER) {
            Checks.noIndex("tagsOf " + never, x, () -> x.tagsOf(never));
        }
        Checks.noIndex("tagsOf, the first number without a dream", x, () -> x.tagsOf(4));
    }

    private static void promise25VividnessOf() {
        DreamLedger x = Ledgers.withDreams();
        Checks.same("vividnessOf(0)", x.vividnessOf(0), 6);
        Checks.same("vividnessOf(3)", x.vividnessOf(3), 3);
        x.passNights(2);
        Checks.same("vividnessOf(0) two nights later", x.vividnessOf(0), 4);
        Checks.same("vividnessOf the latest two nights later", x.vividnessOf(3), 3);
        for (int never : Checks.NEVER) {
            Checks.noIndex("vividnessOf " + never, x, () -> x.vividnessOf(never));
        }
        Checks.noIndex("vividnessOf, the first number without a dream", x, () -> x.vividnessOf(4));
    }

    private static void promise26NightOf() {
        DreamLedger x = Ledgers.withDreams();
        x.passNights(30);
        x.passNights(4);
        x.addDream(0, 1);
        x.passNights(1);
        Checks.same("nightOf the first", x.nightOf(0), 0);
        Checks.same("nightOf a later one", x.nightOf(4), 34);
        x.recall(4, 9);
        x.tagDream(4, 5);
        Checks.same("nightOf it, changed", x.nightOf(4), 34);
        for (int never : Checks.NEVER) {
            Checks.noIndex("nightOf " + never, x, () -> x.nightOf(never));
        }
        Checks.noIndex("nightOf, the first number without a dream", x, () -> x.nightOf(5));
    }

    private static void promise27Matches() {
        DreamLedger x = Ledgers.withDreams();
        Checks.same("matches, an own tag", x.matches(3, 0), true);
        Checks.same("matches, a tag above", x.matches(0, 1), true);
        Checks.same("matches, a tag below", x.matches(1, 3), false);
        x.addBothTerm(0, 4);
        x.addWithoutTerm(6);
        x.addEitherTerm(6, 2);
        x.addBothTerm(7, 8);
        Checks.same("matches, terms of terms", x.matches(9, 1), true);
        Checks.same("matches, terms of terms", x.matches(9, 0), false);
        Checks.same("matches, terms of terms", x.matches(9, 2), false);
        x.freeTag(5);
        Checks.same("matches, by tags as they are now", x.matches(7, 0), true);
        x.tagDream(2, 3);
        Checks.same("matches, by own tags as they are now", x.matches(7, 2), false);
        for (int never : Checks.NEVER) {
            Checks.noIndex("matches, term " + never, x, () -> x.matches(never, 0));
            Checks.noIndex("matches, dream " + never, x, () -> x.matches(0, never));
        }
        Checks.noIndex("matches, the first number without a term", x, () -> x.matches(10, 0));
        Checks.noIndex("matches, the first number without a dream", x, () -> x.matches(0, 4));
    }

    private static void promise28MatchesOf() {
        DreamLedger x = Ledgers.withDreams();
        Checks.same("matchesOf(0)", x.matchesOf(0), 3);
        Checks.same("matchesOf(4)", x.matchesOf(4), 2);
        x.addBothTerm(2, 4);
        x.addWithoutTerm(6);
        Checks.same("matchesOf none", x.matchesOf(6), 0);
        Checks.same("matchesOf all", x.matchesOf(7), 4);
        x.untagDream(0, 5);
        Checks.same("matchesOf now", x.matchesOf(4), 1);
        for (int never : Checks.NEVER) {
            Checks.noIndex("matchesOf " + never, x, () -> x.matchesOf(never));
        }
        Checks.noIndex("matchesOf, the first number without a term", x, () -> x.matchesOf(8));
    }

    private static void promise29MostVivid() {
        DreamLedger x = Ledgers.withDreams();
        x.addBothTerm(2, 4);
        x.addWithoutTerm(6);
        Checks.same("mostVivid(0)", x.mostVivid(0), 1);
        Checks.same("mostVivid, of several the smallest", x.mostVivid(7), 1);
        x.recall(1, 7);
        Checks.same("mostVivid then", x.mostVivid(7), 2);
        Checks.same("mostVivid without one", x.mostVivid(6), -1);
        x.recall(0, 0);
        Checks.same("mostVivid, faded", x.mostVivid(1), 0);
        for (int never : Checks.NEVER) {
            Checks.noIndex("mostVivid " + never, x, () -> x.mostVivid(never));
        }
        Checks.noIndex("mostVivid, the first number without a term", x, () -> x.mostVivid(8));
    }

    private static void promise30CommonTags() {
        DreamLedger x = Ledgers.withDreams();
        x.addBothTerm(2, 4);
        x.addWithoutTerm(6);
        x.addEitherTerm(1, 2);
        Checks.same("commonTags of one dream", x.commonTags(1), 5);
        Checks.same("commonTags, a tag above", x.commonTags(8), 1);
        Checks.same("commonTags(4)", x.commonTags(4), 1);
        Checks.same("commonTags, nothing in common", x.commonTags(7), 0);
        Checks.same("commonTags without one", x.commonTags(6), 0);
        for (int never : Checks.NEVER) {
            Checks.noIndex("commonTags " + never, x, () -> x.commonTags(never));
        }
        Checks.noIndex("commonTags, the first number without a term", x, () -> x.commonTags(9));
    }

    private static void promise31MatchSame() {
        DreamLedger x = Ledgers.withDreams();
        Checks.same("matchSame(1, 3)", x.matchSame(1, 3), true);
        Checks.same("matchSame, one more", x.matchSame(4, 5), false);
        Checks.same("matchSame, as many but others", x.matchSame(1, 2), false);
        Checks.same("matchSame, the same term", x.matchSame(4, 4), true);
        x.tagDream(3, 1);
        Checks.same("matchSame then", x.matchSame(1, 3), false);
        for (int never : Checks.NEVER) {
            Checks.noIndex("matchSame, first " + never, x, () -> x.matchSame(never, 0));
            Checks.noIndex("matchSame, second " + never, x, () -> x.matchSame(0, never));
        }
        Checks.noIndex("matchSame, the first number without a term", x, () -> x.matchSame(6, 0));
        Checks.noIndex("matchSame, the first number without a term", x, () -> x.matchSame(0, 6));
    }

    /** Tags 0 to 3, dreams with own tags 1 2, 0 2, 1 3, 0 3; terms: tag 0, without, either (all), both (none). */
    private static DreamLedger withCovers() {
        DreamLedger x = Ledgers.withTags(4);
        int[][] own = {{1, 2}, {0, 2}, {1, 3}, {0, 3}};
        for (int[] tags : own) {
            x.tagDream(x.addDream(tags[0], 5), tags[1]);
        }
        x.addTagTerm(0);
        x.addWithoutTerm(0);
        x.addEitherTerm(0, 1);
        x.addBothTerm(0, 1);
        return x;
    }

    private static void promise32CoverSize() {
        DreamLedger x = withCovers();
        Checks.same("coverSize of one tag's", x.coverSize(0), 1);
        Checks.same("coverSize of all", x.coverSize(2), 2);
        Checks.same("coverSize without a dream", x.coverSize(3), 0);
        x.addTag();
        x.addDream(4, 5);
        Checks.same("coverSize with one more", x.coverSize(2), 3);
        x.putUnder(4, 0);
        Checks.same("coverSize, covered from above", x.coverSize(2), 2);
        x.putUnder(1, 0);
        Checks.same("coverSize, all covered from above", x.coverSize(2), 1);
        for (int never : Checks.NEVER) {
            Checks.noIndex("coverSize " + never, x, () -> x.coverSize(never));
        }
        Checks.noIndex("coverSize, the first number without a term", x, () -> x.coverSize(4));
        DreamLedger all = Ledgers.withTags(16);
        for (int tag = 0; tag < 16; tag++) {
            all.addDream(tag, 5);
        }
        all.addTagTerm(0);
        all.addWithoutTerm(0);
        all.addEitherTerm(0, 1);
        Checks.same("coverSize, all 16", all.coverSize(2), 16);
        Checks.same("coverTag, the last of 16", all.coverTag(2, 15), 15);
        Checks.same("coverTag, the first of 15", all.coverTag(1, 0), 1);
        greedyMisses();
    }

    /** Tag 0 covers the most dreams, but the smallest cover is 1 and 2. */
    private static void greedyMisses() {
        DreamLedger x = Ledgers.withTags(3);
        int[] own = {0b011, 0b011, 0b101, 0b101, 0b010, 0b100};
        for (int tags : own) {
            int dream = x.addDream(Integer.numberOfTrailingZeros(tags), 5);
            int others = tags & (tags - 1);
            if (others != 0) {
                x.tagDream(dream, Integer.numberOfTrailingZeros(others));
            }
        }
        x.addTagTerm(0);
        x.addWithoutTerm(0);
        x.addEitherTerm(0, 1);
        Checks.same("coverSize, the most frequent tag left out", x.coverSize(2), 2);
        Checks.same("coverTag, the most frequent tag left out", x.coverTag(2, 0), 1);
    }

    private static void promise33CoverTag() {
        DreamLedger x = withCovers();
        Checks.same("coverTag(0, 0)", x.coverTag(0, 0), 0);
        Checks.same("coverTag(1, 0)", x.coverTag(1, 0), 1);
        Checks.same("coverTag, the smallest first", x.coverTag(2, 0), 0);
        Checks.same("coverTag, then the second", x.coverTag(2, 1), 1);
        x.tagDream(0, 3);
        Checks.same("coverTag, now 0 and 1, not 0 and 3", x.coverTag(2, 1), 1);
        x.untagDream(2, 1);
        Checks.same("coverTag, 0 and 3 now", x.coverTag(2, 1), 3);
        int[] places = {2, 3, -1, 16, 32, Integer.MIN_VALUE, Integer.MAX_VALUE};
        for (int place : places) {
            Checks.noIndex("coverTag, place " + place, x, () -> x.coverTag(2, place));
        }
        Checks.noIndex("coverTag of no dreams", x, () -> x.coverTag(3, 0));
        for (int never : Checks.NEVER) {
            Checks.noIndex("coverTag, term " + never, x, () -> x.coverTag(never, 0));
        }
        Checks.noIndex("coverTag, the first number without a term", x, () -> x.coverTag(4, 0));
    }

    private static void promise34To37Counts() {
        DreamLedger x = Ledgers.withDreams();
        x.passNights(30);
        x.passNights(7);
        Checks.same("tags", x.tags(), 6);
        Checks.same("dreams", x.dreams(), 4);
        Checks.same("terms", x.terms(), 6);
        Checks.same("nights", x.nights(), 37);
        x.addTag();
        Checks.same("tags, one more", x.tags(), 7);
        x.addDream(6, 1);
        Checks.same("dreams, one more", x.dreams(), 5);
        x.addWithoutTerm(0);
        Checks.same("terms, one more", x.terms(), 7);
        x.passNights(1);
        Checks.same("nights, one more", x.nights(), 38);
        x.fadedAfter(9);
        Checks.same("nights, only asked", x.nights(), 38);
    }

    private static void promise38FadedDreams() {
        DreamLedger x = Ledgers.withDreams();
        Checks.same("fadedDreams", x.fadedDreams(), 0);
        x.recall(2, 0);
        Checks.same("fadedDreams, one recalled so", x.fadedDreams(), 1);
        x.recall(3, 0);
        Checks.same("fadedDreams, the latest one too", x.fadedDreams(), 2);
        x.passNights(6);
        Checks.same("fadedDreams later", x.fadedDreams(), 3);
        x.recall(0, 1);
        Checks.same("fadedDreams, one less", x.fadedDreams(), 2);
    }

    private static void promise39FadedAfter() {
        DreamLedger x = Ledgers.withDreams();
        long before = x.digest();
        Checks.same("fadedAfter(5)", x.fadedAfter(5), 0);
        Checks.same("fadedAfter(6)", x.fadedAfter(6), 1);
        Checks.same("fadedAfter(8)", x.fadedAfter(8), 3);
        Checks.same("fadedAfter(30), the latest stays", x.fadedAfter(30), 3);
        Checks.same("fadedAfter changes nothing", x.digest(), before);
        x.tagDream(1, 0);
        Checks.same("fadedAfter, one more is like the latest", x.fadedAfter(30), 2);
        x.recall(3, 0);
        Checks.same("fadedAfter, the latest has faded before", x.fadedAfter(1), 1);
        int[] wrongs = {0, -1, 31, Integer.MIN_VALUE, Integer.MAX_VALUE};
        for (int wrong : wrongs) {
            Checks.noArgument("fadedAfter " + wrong, x, () -> x.fadedAfter(wrong));
        }
    }

    private static void promise40MatchesIfUnder() {
        DreamLedger x = Ledgers.withDreams();
        x.addWithoutTerm(4);
        long before = x.digest();
        Checks.same("matchesIfUnder(4, 2, 4)", x.matchesIfUnder(4, 2, 4), 3);
        Checks.same("matchesIfUnder(4, 0, 5)", x.matchesIfUnder(4, 0, 5), 4);
        Checks.same("matchesIfUnder(0, 1, 4)", x.matchesIfUnder(0, 1, 4), 2);
        Checks.same("matchesIfUnder, the parent that it has", x.matchesIfUnder(0, 1, 0), 3);
        Checks.same("matchesIfUnder, a without term", x.matchesIfUnder(6, 0, 5), 0);
        Checks.same("matchesIfUnder changes nothing", x.digest(), before);
        Checks.same("matchesIfUnder keeps the parent", x.parentOf(1), 0);
        Checks.noArgument("matchesIfUnder itself", x, () -> x.matchesIfUnder(0, 1, 1));
        Checks.noState("matchesIfUnder one below", x, () -> x.matchesIfUnder(0, 0, 3));
        for (int never : Checks.NEVER) {
            Checks.noIndex("matchesIfUnder, term " + never, x, () -> x.matchesIfUnder(never, 1, 1));
            Checks.noIndex("matchesIfUnder, tag " + never, x, () -> x.matchesIfUnder(0, never, 0));
            Checks.noIndex("matchesIfUnder, parent " + never, x, () -> x.matchesIfUnder(0, 0, never));
            Checks.noIndex("matchesIfUnder, both " + never, x, () -> x.matchesIfUnder(0, never, never));
        }
        Checks.noIndex("matchesIfUnder, no term, one below", x, () -> x.matchesIfUnder(7, 0, 3));
        Checks.noIndex("matchesIfUnder, the first number without a tag", x, () -> x.matchesIfUnder(0, 6, 0));
        Checks.noIndex("matchesIfUnder, the first number without a tag", x, () -> x.matchesIfUnder(0, 0, 6));
    }

    private static void promise41BestParent() {
        DreamLedger x = Ledgers.withDreams();
        x.addWithoutTerm(0);
        long before = x.digest();
        Checks.same("bestParent, of several the smallest", x.bestParent(4, 0), 4);
        Checks.same("bestParent(5, 0)", x.bestParent(5, 0), 5);
        Checks.same("bestParent, the tag that the term asks for is below it", x.bestParent(1, 0), -1);
        Checks.same("bestParent, it would match as many only", x.bestParent(0, 1), -1);
        Checks.same("bestParent(3, 4), the most", x.bestParent(3, 4), 3);
        Checks.same("bestParent of a without term", x.bestParent(6, 2), 4);
        Checks.same("bestParent, the first tag", x.bestParent(0, 4), 0);
        Checks.same("bestParent changes nothing", x.digest(), before);
        x.addTag();
        x.putUnder(5, 6);
        Checks.same("bestParent, more than the first that is better", x.bestParent(4, 6), 4);
        x.addTag();
        Checks.same("bestParent of a new tag", x.bestParent(4, 7), -1);
        for (int never : Checks.NEVER) {
            Checks.noIndex("bestParent, term " + never, x, () -> x.bestParent(never, 0));
            Checks.noIndex("bestParent, tag " + never, x, () -> x.bestParent(0, never));
        }
        Checks.noIndex("bestParent, the first number without a term", x, () -> x.bestParent(7, 0));
        Checks.noIndex("bestParent, the first number without a tag", x, () -> x.bestParent(0, 8));
        DreamLedger full = Ledgers.withTags(16);
        full.addDream(3, 5);
        full.addTagTerm(15);
        Checks.same("bestParent, the last of 16", full.bestParent(0, 3), 15);
        DreamLedger one = Ledgers.withTags(1);
        one.addTagTerm(0);
        Checks.same("bestParent, no other tag", one.bestParent(0, 0), -1);
    }

    private static void promise42MeanVividness() {
        DreamLedger x = Ledgers.withTags(2);
        Checks.same("meanVividness without dreams", x.meanVividness(), 0.0);
        x.addDream(0, 9);
        Checks.same("meanVividness of one", x.meanVividness(), 9.0);
        x.addDream(1, 4);
        Checks.same("meanVividness, not whole", x.meanVividness(), 6.5);
        x.addDream(1, 1);
        Checks.same("meanVividness of three", x.meanVividness(), 14.0 / 3);
        x.recall(0, 0);
        x.recall(1, 0);
        x.recall(2, 0);
        Checks.same("meanVividness, all faded", x.meanVividness(), 0.0);
    }

    private static void promise43Digest() {
        long empty = 1867L * 31 * 31 * 31 * 31 * 31;
        Checks.same("digest of a new object", new DreamLedger().digest(), empty);
        DreamLedger x = Ledgers.withDreams();
        x.addBothTerm(0, 4);
        x.addWithoutTerm(6);
        x.addBothTerm(2, 6);
        x.passNights(3);
        x.recall(1, 0);
        x.addDream(5, 2);
        long first = x.digest();
        Checks.same("digest again", x.digest(), first);
        Checks.same("digest", first, digestOf(x));
        DreamLedger y = Ledgers.withTags(1);
        y.addDream(0, 7);
        y.addTagTerm(0);
        long[] told = {1, 1, 1, 0, 0, -1, 0, 0, 1, 1, 7, 0, 1, 1, 0, 1, 1, 0, 1};
        long due = 1867;
        for (long each : told) {
            due = due * 31 + each;
        }
        Checks.same("digest, number by number", y.digest(), due);
    }

    /** As many tags, dreams and terms as there can be. */
    private static void fullLedger() {
        DreamLedger x = Ledgers.longLine();
        for (int dream = 0; dream < 24; dream++) {
            x.addDream(dream % 16, 1 + dream % 9);
        }
        x.addTagTerm(8);
        for (int term = 1; term < 20; term++) {
            x.addWithoutTerm(term - 1);
        }
        Checks.same("full: dreamsWith", x.dreamsWith(15), 24);
        Checks.same("full: matchesOf", x.matchesOf(0), 17);
        Checks.same("full: matchesOf without", x.matchesOf(19), 7);
        Checks.same("full: mostVivid", x.mostVivid(18), 8);
        Checks.same("full: commonTags", x.commonTags(18), 8);
        Checks.same("full: coverSize", x.coverSize(19), 1);
        Checks.same("full: coverTag", x.coverTag(19, 0), 15);
        Checks.same("full: meanVividness", x.meanVividness(), 111.0 / 24);
        Checks.same("full: matchesIfUnder", x.matchesIfUnder(19, 8, 15), 7);
        Checks.same("full: fadedAfter", x.fadedAfter(30), 22);
        Checks.same("full: passNights", x.passNights(9), 22);
        Checks.same("full: fadedDreams", x.fadedDreams(), 22);
    }

    /** The digest that is due by the document, from the other answers of the ledger. */
    private static long digestOf(DreamLedger x) {
        long d = 1867;
        int[] counts = {x.tags(), x.dreams(), x.terms(), x.nights(), x.fadedDreams()};
        for (int count : counts) {
            d = d * 31 + count;
        }
        for (int tag = 0; tag < x.tags(); tag++) {
            d = d * 31 + (x.hasParent(tag) ? x.parentOf(tag) : -1);
            d = d * 31 + x.tagsAbove(tag);
            d = d * 31 + x.tagsBelow(tag);
            d = d * 31 + x.dreamsWith(tag);
        }
        for (int dream = 0; dream < x.dreams(); dream++) {
            d = d * 31 + x.tagsOf(dream);
            d = d * 31 + x.vividnessOf(dream);
            d = d * 31 + x.nightOf(dream);
            for (int tag = 0; tag < x.tags(); tag++) {
                d = d * 31 + (x.hasOwnTag(dream, tag) ? 1 : 0);
            }
        }
        for (int term = 0; term < x.terms(); term++) {
            d = d * 31 + x.matchesOf(term);
            d = d * 31 + x.mostVivid(term);
            d = d * 31 + x.commonTags(term);
            d = d * 31 + x.coverSize(term);
            for (int place = 0; place < x.coverSize(term); place++) {
                d = d * 31 + x.coverTag(term, place);
            }
            for (int dream = 0; dream < x.dreams(); dream++) {
                d = d * 31 + (x.matches(term, dream) ? 1 : 0);
            }
        }
        return d;
    }
}
