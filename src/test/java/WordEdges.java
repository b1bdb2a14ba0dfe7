/** The sentences of the sections "What it is" and "Terms", each with the cases at its edges. */
final class WordEdges {
    private WordEdges() {
    }

    static void all() {
        Checks.run(WordEdges::calls512);
        Checks.run(WordEdges::tags16);
        Checks.run(WordEdges::parentOrNone);
        Checks.run(WordEdges::parentOfTheParent);
        Checks.run(WordEdges::noTagAboveItself);
        Checks.run(WordEdges::dreams24);
        Checks.run(WordEdges::ofItsOwn);
        Checks.run(WordEdges::ownOrAboveOwn);
        Checks.run(WordEdges::nightsFrom0);
        Checks.run(WordEdges::nightTakesOne);
        Checks.run(WordEdges::nightSparesTheLatest);
        Checks.run(WordEdges::nightSparesThoseLikeTheLatest);
        Checks.run(WordEdges::nightFadesThoseAlikeFromAboveAlone);
        Checks.run(WordEdges::nightByTheLatestAsItIsThen);
        Checks.run(WordEdges::terms20);
        Checks.run(WordEdges::tagTerms);
        Checks.run(WordEdges::bothAndEitherTerms);
        Checks.run(WordEdges::withoutTerms);
        Checks.run(WordEdges::termsOfTermsAhead);
        Checks.run(WordEdges::asTheyAreNow);
        Checks.run(WordEdges::coverHasOneOfEach);
        Checks.run(WordEdges::coverOfTheFewest);
        Checks.run(WordEdges::coverOfTheSmallestTags);
        Checks.run(WordEdges::coverWithoutADream);
    }

    private static void calls512() {
        Document.sentence("What it is", "An object is used for at most 512 calls");
        DreamLedger x = new DreamLedger();
        for (int call = 1; call < 512; call++) {
            x.passNights(30);
        }
        Checks.same("the 512th call, nights", x.nights(), 511 * 30);
        DreamLedger y = Ledgers.withTags(16);
        for (int call = 17; call < 512; call++) {
            y.putUnder(call % 2, 2 + call % 14);
        }
        Checks.same("the 512th call, tagsAbove", y.tagsAbove(1), 1);
    }

    private static void tags16() {
        Document.terms("There are at most 16, numbered from 0.");
        DreamLedger x = new DreamLedger();
        for (int tag = 0; tag < 16; tag++) {
            Checks.same("number of a tag", x.addTag(), tag);
        }
        Checks.same("tags", x.tags(), 16);
        Checks.same("the last one is a tag", x.putUnder(15, 0), 1);
        Checks.same("the first one is a tag", x.parentOf(15), 0);
        Checks.noState("one more", x, x::addTag);
        Checks.noIndex("the number 16", x, () -> x.hasParent(16));
    }

    private static void parentOrNone() {
        Document.terms("Each stands under another tag, its parent, or under none (at first).");
        DreamLedger x = new DreamLedger();
        for (int tag = 0; tag < 16; tag++) {
            x.addTag();
            Checks.same("has a parent at first, tag " + tag, x.hasParent(tag), false);
        }
        for (int tag = 0; tag < 16; tag++) {
            for (int parent = 0; parent < 16; parent++) {
                if (tag != parent) {
                    underAndFree(Ledgers.withTags(16), tag, parent);
                }
            }
        }
    }

    private static void underAndFree(DreamLedger x, int tag, int parent) {
        String which = " " + tag + " under " + parent;
        x.putUnder(tag, parent);
        Checks.same("has a parent," + which, x.hasParent(tag), true);
        Checks.same("which one," + which, x.parentOf(tag), parent);
        Checks.same("the parent has one," + which, x.hasParent(parent), false);
        x.freeTag(tag);
        Checks.same("has a parent, no longer" + which, x.hasParent(tag), false);
    }

    private static void parentOfTheParent() {
        Document.terms("The tags above a tag are its parent, the parent of that, and so on; it is below these.");
        DreamLedger x = Ledgers.longLine();
        for (int tag = 0; tag < 16; tag++) {
            Checks.same("above " + tag, x.tagsAbove(tag), 15 - tag);
            Checks.same("below " + tag, x.tagsBelow(tag), tag);
        }
        Checks.same("0 below the next", x.isBelow(0, 1), true);
        Checks.same("0 below the last", x.isBelow(0, 15), true);
        Checks.same("the last below 0", x.isBelow(15, 0), false);
        Checks.same("no tag above", Ledgers.withTags(1).tagsAbove(0), 0);
        x.freeTag(7);
        Checks.same("0 above the break", x.tagsAbove(0), 7);
        Checks.same("8 below the break", x.tagsBelow(8), 0);
    }

    private static void noTagAboveItself() {
        Document.terms("No tag is above itself.");
        DreamLedger x = Ledgers.longLine();
        for (int tag = 0; tag < 16; tag++) {
            Checks.same("below itself, " + tag, x.isBelow(tag, tag), false);
        }
        Twins.noArgument("a circle of one", Ledgers.FULL, y -> y.putUnder(15, 15));
        Twins.noState("a circle of two", Ledgers.FULL, y -> y.putUnder(0, 1));
        Twins.noState("a circle of three", Ledgers.FULL, y -> y.putUnder(12, 14));
        Twins.noState("a circle of 16", Ledgers::longLine, y -> y.putUnder(15, 0));
    }

    private static void dreams24() {
        Document.terms("There are at most 24, numbered from 0 as they are written down.");
        DreamLedger x = Ledgers.withTags(1);
        for (int dream = 0; dream < 24; dream++) {
            Checks.same("number of a dream", x.addDream(0, 1 + dream % 9), dream);
        }
        Checks.same("dreams", x.dreams(), 24);
        Checks.same("the first one", x.vividnessOf(0), 1);
        Checks.same("the last one", x.vividnessOf(23), 6);
        Checks.noState("one more", x, () -> x.addDream(0, 5));
        Checks.noIndex("the number 24", x, () -> x.vividnessOf(24));
    }

    private static void ofItsOwn() {
        Document.terms("Each has one or more tags of its own, a vividness, 0 to 9, and the night");
        DreamLedger x = Ledgers.withTags(16);
        x.addDream(15, 9);
        Checks.same("own tags, one", x.tagsOf(0), 1);
        Checks.noState("none is too few", x, () -> x.untagDream(0, 15));
        for (int tag = 0; tag < 15; tag++) {
            Checks.same("own tags, one more", x.tagDream(0, tag), tag + 2);
        }
        Checks.same("own tags, all", x.tagsOf(0), 16);
        Checks.same("a vividness of 9", x.vividnessOf(0), 9);
        x.recall(0, 0);
        Checks.same("a vividness of 0", x.vividnessOf(0), 0);
        Checks.noArgument("a vividness of -1", x, () -> x.recall(0, -1));
        Checks.noArgument("a vividness of 10", x, () -> x.recall(0, 10));
        Checks.same("written down in the first night", x.nightOf(0), 0);
        x.passNights(1);
        x.addDream(0, 1);
        Checks.same("written down in the second night", x.nightOf(1), 1);
        Checks.same("written down before", x.nightOf(0), 0);
    }

    private static void ownOrAboveOwn() {
        Document.terms("A dream has a tag, if this is one of its own, or above one of its own.");
        DreamLedger x = Ledgers.longLine();
        x.addDream(14, 5);
        x.addDream(0, 5);
        Checks.same("its own", x.hasTag(0, 14), true);
        Checks.same("just above its own", x.hasTag(0, 15), true);
        Checks.same("just below its own", x.hasTag(0, 13), false);
        Checks.same("far below its own", x.hasTag(0, 0), false);
        Checks.same("far above its own", x.hasTag(1, 15), true);
        x.tagDream(1, 15);
        Checks.same("its own and above its own", x.tagsOf(1), 16);
        x.freeTag(0);
        Checks.same("its own still", x.hasTag(1, 15), true);
        Checks.same("above its own no longer", x.hasTag(1, 14), false);
        DreamLedger y = Ledgers.withDreams();
        Checks.same("beside its own, under the same parent", y.hasTag(1, 1), false);
        Checks.same("above its second own one", y.hasTag(0, 4), true);
    }

    private static void nightsFrom0() {
        Document.terms("They are counted from 0.");
        DreamLedger x = Ledgers.withTags(1);
        Checks.same("nights at first", x.nights(), 0);
        x.addDream(0, 1);
        Checks.same("night of the first dream", x.nightOf(0), 0);
        x.passNights(1);
        Checks.same("nights, one later", x.nights(), 1);
        x.addDream(0, 1);
        Checks.same("night of the second dream", x.nightOf(1), 1);
    }

    private static final String NIGHT = "As a night goes by, each dream with a vividness of 1 or more, but";

    /** Dreams 0 and 1 have the vividness told and the tag 0; the latest one, 2, has the tag 1. */
    private static DreamLedger beforeTheNight(int vividness) {
        DreamLedger x = Ledgers.withTags(3);
        x.addDream(0, 9);
        x.addDream(0, 9);
        x.addDream(1, 9);
        x.recall(0, vividness);
        x.recall(1, vividness);
        return x;
    }

    private static void nightTakesOne() {
        Document.terms(NIGHT);
        for (int vividness = 1; vividness <= 9; vividness++) {
            DreamLedger x = beforeTheNight(vividness);
            x.passNights(1);
            Checks.same("from " + vividness, x.vividnessOf(0), vividness - 1);
            Checks.same("from " + vividness + ", the one just ahead of the latest", x.vividnessOf(1), vividness - 1);
        }
        DreamLedger none = beforeTheNight(0);
        none.passNights(1);
        Checks.same("from 0", none.vividnessOf(0), 0);
        DreamLedger many = beforeTheNight(9);
        many.passNights(8);
        Checks.same("from 9, eight nights", many.vividnessOf(0), 1);
        DreamLedger last = beforeTheNight(1);
        last.passNights(2);
        Checks.same("from 1, two nights", last.vividnessOf(0), 0);
        last.passNights(30);
        Checks.same("from 0, thirty nights", last.vividnessOf(0), 0);
    }

    private static void nightSparesTheLatest() {
        Document.terms(NIGHT);
        DreamLedger x = Ledgers.withTags(2);
        x.addDream(0, 1);
        x.passNights(30);
        Checks.same("the only one", x.vividnessOf(0), 1);
        x.addDream(1, 9);
        x.passNights(1);
        Checks.same("the latest one", x.vividnessOf(1), 9);
        Checks.same("the latest one no longer", x.vividnessOf(0), 0);
        x.recall(1, 0);
        x.passNights(1);
        Checks.same("the latest one, faded", x.vividnessOf(1), 0);
        Checks.same("none at all", new DreamLedger().passNights(1), 0);
        DreamLedger full = Ledgers.withTags(2);
        for (int dream = 0; dream < 24; dream++) {
            full.addDream(dream == 23 ? 1 : 0, 9);
        }
        full.passNights(1);
        Checks.same("the 24th", full.vividnessOf(23), 9);
        Checks.same("the 23rd", full.vividnessOf(22), 8);
        Checks.same("the first", full.vividnessOf(0), 8);
    }

    private static void nightSparesThoseLikeTheLatest() {
        Document.terms(NIGHT);
        DreamLedger x = Ledgers.withTags(16);
        x.addDream(0, 5);
        x.addDream(15, 5);
        x.addDream(7, 5);
        x.addDream(8, 5);
        x.tagDream(2, 15);
        x.addDream(0, 5);
        x.tagDream(4, 15);
        x.passNights(1);
        Checks.same("the first tag is one of the latest", x.vividnessOf(0), 5);
        Checks.same("the last tag is one of the latest", x.vividnessOf(1), 5);
        Checks.same("one of its two is one of the latest", x.vividnessOf(2), 5);
        Checks.same("none is one of the latest", x.vividnessOf(3), 4);
        x.recall(0, 0);
        x.passNights(1);
        Checks.same("faded, and like the latest", x.vividnessOf(0), 0);
    }

    private static void nightFadesThoseAlikeFromAboveAlone() {
        Document.terms(NIGHT);
        DreamLedger x = Ledgers.withTree();
        x.addDream(0, 5);
        x.addDream(2, 5);
        x.addDream(3, 5);
        x.addDream(1, 5);
        x.passNights(1);
        Checks.same("its own is above that of the latest", x.vividnessOf(0), 4);
        Checks.same("its own has the same parent", x.vividnessOf(1), 4);
        Checks.same("its own is below that of the latest", x.vividnessOf(2), 4);
    }

    private static void nightByTheLatestAsItIsThen() {
        Document.terms(NIGHT);
        DreamLedger x = Ledgers.withTags(3);
        x.addDream(0, 9);
        x.addDream(0, 9);
        x.passNights(1);
        Checks.same("like the latest", x.vividnessOf(0), 9);
        x.tagDream(1, 1);
        x.untagDream(1, 0);
        x.passNights(1);
        Checks.same("like the latest no longer", x.vividnessOf(0), 8);
        x.tagDream(0, 1);
        x.passNights(1);
        Checks.same("like the latest again", x.vividnessOf(0), 8);
        x.addDream(2, 9);
        x.passNights(1);
        Checks.same("like the one that was the latest", x.vividnessOf(0), 7);
        Checks.same("was the latest", x.vividnessOf(1), 8);
    }

    private static final String TERMS = "There are at most 20, numbered from 0; each matches some dreams:";

    private static void terms20() {
        Document.terms(TERMS);
        DreamLedger x = Ledgers.withOne();
        x.clearTerms();
        for (int term = 0; term < 20; term++) {
            Checks.same("number of a term", x.addTagTerm(0), term);
        }
        Checks.same("terms", x.terms(), 20);
        Checks.same("the first one", x.matchesOf(0), 1);
        Checks.same("the last one", x.matchesOf(19), 1);
        Checks.noState("one more", x, () -> x.addTagTerm(0));
        Checks.noIndex("the number 20", x, () -> x.matchesOf(20));
    }

    private static void tagTerms() {
        Document.terms(TERMS);
        DreamLedger x = Ledgers.longLine();
        x.addTagTerm(0);
        x.addTagTerm(15);
        Checks.same("no dream is there", x.matchesOf(1), 0);
        x.addDream(14, 5);
        Checks.same("no dream has it", x.matchesOf(0), 0);
        Checks.same("a dream has it from above", x.matches(1, 0), true);
        x.addDream(0, 5);
        Checks.same("a dream has it of its own", x.matches(0, 1), true);
        Checks.same("the other one has it not", x.matches(0, 0), false);
        for (int dream = 2; dream < 24; dream++) {
            x.addDream(dream % 16, 5);
        }
        Checks.same("all dreams have it", x.matchesOf(1), 24);
    }

    /** Tags 0 to 2; dreams 0 with 0, 1 with 1, 2 with 0 and 1, 3 with 2; terms 0 to 2 are the tags. */
    private static DreamLedger fourDreams() {
        DreamLedger x = Ledgers.withTags(3);
        x.addDream(0, 5);
        x.addDream(1, 5);
        x.addDream(0, 5);
        x.tagDream(2, 1);
        x.addDream(2, 5);
        for (int tag = 0; tag < 3; tag++) {
            x.addTagTerm(tag);
        }
        return x;
    }

    private static void matched(String what, DreamLedger x, int term, String due) {
        StringBuilder got = new StringBuilder();
        for (int dream = 0; dream < x.dreams(); dream++) {
            got.append(x.matches(term, dream) ? "" + dream : "-");
        }
        Checks.same(what, got.toString(), due);
    }

    private static void bothAndEitherTerms() {
        Document.terms(TERMS);
        DreamLedger x = fourDreams();
        matched("both of two", x, x.addBothTerm(0, 1), "--2-");
        matched("both, of none in common", x, x.addBothTerm(0, 2), "----");
        matched("both of one and the same", x, x.addBothTerm(1, 1), "-12-");
        matched("either of two", x, x.addEitherTerm(0, 1), "012-");
        matched("either of one and the same", x, x.addEitherTerm(1, 1), "-12-");
        matched("either of all", x, x.addEitherTerm(6, 2), "0123");
        matched("either of none", x, x.addEitherTerm(4, 4), "----");
        matched("both of all", x, x.addBothTerm(8, 8), "0123");
    }

    private static void withoutTerms() {
        Document.terms(TERMS);
        DreamLedger x = fourDreams();
        matched("without", x, x.addWithoutTerm(0), "-1-3");
        matched("without that", x, x.addWithoutTerm(3), "0-2-");
        x.addBothTerm(0, 2);
        matched("without none", x, x.addWithoutTerm(5), "0123");
        matched("without all", x, x.addWithoutTerm(6), "----");
        DreamLedger empty = Ledgers.withTags(1);
        empty.addTagTerm(0);
        empty.addWithoutTerm(0);
        Checks.same("without, no dream is there", empty.matchesOf(1), 0);
        for (int dream = 0; dream < 24; dream++) {
            empty.addDream(0, 1);
        }
        Checks.same("without all of 24", empty.matchesOf(1), 0);
        DreamLedger other = Ledgers.withTags(2);
        other.addTagTerm(1);
        other.addWithoutTerm(0);
        for (int dream = 0; dream < 24; dream++) {
            other.addDream(0, 1);
        }
        Checks.same("without none of 24", other.matchesOf(1), 24);
    }

    private static void termsOfTermsAhead() {
        Document.terms(TERMS);
        Ledgers.Start start = WordEdges::fourDreams;
        Twins.noIndex("both of the term itself", start, x -> x.addBothTerm(3, 0));
        Twins.noIndex("both of the term itself", start, x -> x.addBothTerm(0, 3));
        Twins.noIndex("either of the term itself", start, x -> x.addEitherTerm(3, 0));
        Twins.noIndex("either of the term itself", start, x -> x.addEitherTerm(0, 3));
        Twins.noIndex("without the term itself", start, x -> x.addWithoutTerm(3));
        DreamLedger x = fourDreams();
        Checks.same("both of the one just ahead", x.addBothTerm(2, 2), 3);
        Checks.same("either of the one just ahead", x.addEitherTerm(3, 3), 4);
        Checks.same("without the one just ahead", x.addWithoutTerm(4), 5);
        matched("by all ahead", x, 5, "012-");
    }

    private static void asTheyAreNow() {
        Document.terms("What they match is always so by tags and dreams as they are now.");
        DreamLedger x = Ledgers.withTags(4);
        x.addTagTerm(0);
        x.addWithoutTerm(0);
        x.addEitherTerm(0, 1);
        x.addBothTerm(0, 2);
        x.addDream(1, 5);
        x.addDream(0, 5);
        nowMatched("dreams written down", x, "-1", "0-");
        x.putUnder(2, 0);
        x.putUnder(1, 2);
        nowMatched("a tag put under another", x, "01", "--");
        x.freeTag(2);
        nowMatched("a tag freed", x, "-1", "0-");
        x.tagDream(0, 0);
        nowMatched("an own tag more", x, "01", "--");
        x.untagDream(0, 0);
        nowMatched("an own tag less", x, "-1", "0-");
        x.passNights(30);
        x.recall(0, 0);
        nowMatched("faded", x, "-1", "0-");
        x.addTag();
        x.putUnder(1, 4);
        x.putUnder(4, 0);
        nowMatched("put under another by a new tag", x, "01", "--");
        x.putUnder(1, 3);
        nowMatched("put elsewhere", x, "-1", "0-");
        x.addDream(3, 5);
        nowMatched("one more dream", x, "-1-", "0-2");
    }

    private static void nowMatched(String what, DreamLedger x, String with, String without) {
        matched(what + ", tag term", x, 0, with);
        matched(what + ", without term", x, 1, without);
        Checks.same(what + ", either term", x.matchesOf(2), x.dreams());
        matched(what + ", both term", x, 3, with);
    }

    private static void coverHasOneOfEach() {
        Document.terms("A cover of a term is a set of tags, of which each dream that the term matches");
        DreamLedger x = Ledgers.withTree();
        x.addDream(3, 5);
        x.addDream(2, 5);
        x.addDream(5, 5);
        x.addTagTerm(0);
        x.addWithoutTerm(0);
        x.addEitherTerm(0, 1);
        cover("tags from above", x, 0, "0");
        cover("none but the matched ones", x, 1, "4");
        cover("all", x, 2, "0 4");
        x.freeTag(5);
        cover("from above no longer", x, 2, "0 5");
        x.freeTag(1);
        cover("the smaller one of each two", x, 2, "0 1 5");
    }

    private static void cover(String what, DreamLedger x, int term, String due) {
        StringBuilder got = new StringBuilder();
        int size = x.coverSize(term);
        for (int place = 0; place < size; place++) {
            got.append(place == 0 ? "" : " ").append(x.coverTag(term, place));
        }
        Checks.same(what + ", cover", got.toString(), due);
        Checks.noIndex(what + ", the place behind the last", x, () -> x.coverTag(term, size));
    }

    private static final String SMALLEST = "The smallest cover is one with the fewest tags; of several the one with";

    private static void coverOfAll(String what, int tags, int[][] ownTags, String due) {
        cover(what, Ledgers.withOwnTags(tags, ownTags), Ledgers.ALL, due);
    }

    private static void coverOfTheFewest() {
        Document.terms(SMALLEST);
        coverOfAll("one tag", 1, new int[][] {{0}}, "0");
        coverOfAll("the last tag alone", 16, new int[][] {{15, 0}, {15, 1}, {15, 2}}, "15");
        coverOfAll("one tag rather than two smaller ones", 4, new int[][] {{0, 3}, {1, 3}}, "3");
        coverOfAll("two tags rather than three smaller ones", 6, new int[][] {{0, 4}, {1, 5}, {2, 4}, {2, 5}}, "4 5");
        coverOfAll("without the tag of the most dreams", 3,
                new int[][] {{0, 1}, {0, 1}, {0, 2}, {0, 2}, {1}, {2}}, "1 2");
        int[][] each = new int[16][];
        for (int tag = 0; tag < 16; tag++) {
            each[tag] = new int[] {tag};
        }
        coverOfAll("all tags", 16, each, "0 1 2 3 4 5 6 7 8 9 10 11 12 13 14 15");
    }

    private static void coverOfTheSmallestTags() {
        Document.terms(SMALLEST);
        coverOfAll("the smallest first one", 16, new int[][] {{15, 3}, {3, 15}}, "3");
        coverOfAll("the smallest second one", 8, new int[][] {{0}, {4, 2}}, "0 2");
        coverOfAll("the smallest third one", 8, new int[][] {{1}, {0}, {7, 3}}, "0 1 3");
        coverOfAll("the first one ahead of the second", 6, new int[][] {{0, 1}, {5, 2}, {0, 2}, {5, 1}}, "0 5");
        coverOfAll("the second one ahead of the third", 7,
                new int[][] {{0}, {1, 2}, {6, 3}, {1, 3}, {6, 2}}, "0 1 6");
        coverOfAll("the last two", 16, new int[][] {{15, 14}, {14}, {15}}, "14 15");
    }

    private static void coverWithoutADream() {
        Document.terms("Without a matched dream it has no tags.");
        DreamLedger x = Ledgers.withTags(2);
        x.addTagTerm(0);
        x.addWithoutTerm(0);
        cover("no dream is there", x, 0, "");
        cover("no dream is there, without", x, 1, "");
        x.addDream(1, 5);
        cover("the dream is not matched", x, 0, "");
        cover("the dream is matched", x, 1, "1");
        x.tagDream(0, 0);
        cover("the dream is matched now", x, 0, "0");
        cover("the dream is matched no longer", x, 1, "");
    }
}
