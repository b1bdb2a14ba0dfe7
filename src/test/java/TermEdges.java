/** The sentences of the promises 10 to 14 and 27 to 33, each with the cases at its edges. */
final class TermEdges {
    private static final String NO_TERM = "Throws `IndexOutOfBoundsException` if there is no such term";
    private static final String TWENTY = "Throws `IllegalStateException` if there are 20";

    private TermEdges() {
    }

    static void all() {
        Checks.run(TermEdges::addTagTermNumber);
        Checks.run(TermEdges::addTagTermNoTag);
        Checks.run(TermEdges::addTagTerm20);
        Checks.run(TermEdges::addBothTermNumber);
        Checks.run(TermEdges::addBothTermNoTerm);
        Checks.run(TermEdges::addBothTerm20);
        Checks.run(TermEdges::addEitherTermNumber);
        Checks.run(TermEdges::addEitherTermNoTerm);
        Checks.run(TermEdges::addEitherTerm20);
        Checks.run(TermEdges::addWithoutTermNumber);
        Checks.run(TermEdges::addWithoutTermNoTerm);
        Checks.run(TermEdges::addWithoutTerm20);
        Checks.run(TermEdges::clearTerms);
        Checks.run(TermEdges::clearTermsCount);
        Checks.run(TermEdges::matches);
        Checks.run(TermEdges::matchesNoTermOrDream);
        Checks.run(TermEdges::matchesOf);
        Checks.run(TermEdges::mostVivid);
        Checks.run(TermEdges::mostVividOfSeveral);
        Checks.run(TermEdges::mostVividWithoutOne);
        Checks.run(TermEdges::commonTags);
        Checks.run(TermEdges::commonTagsWithoutOne);
        Checks.run(TermEdges::matchSame);
        Checks.run(TermEdges::matchSameNoTerm);
        Checks.run(TermEdges::coverSize);
        Checks.run(TermEdges::coverTag);
        Checks.run(TermEdges::coverTagPlace);
        Checks.run(TermEdges::coverTagNoTerm);
        Checks.run(TermEdges::coverTagNoPlace);
        Checks.run(TermEdges::questionsOfNoTerm);
    }

    /** 19 terms, so that there is room for one. */
    private static DreamLedger with19() {
        DreamLedger x = Ledgers.withDreams();
        for (int term = 6; term < 19; term++) {
            x.addTagTerm(term % 6);
        }
        return x;
    }

    private static void addTagTermNumber() {
        Document.promise(10, "Returns the number of the term.");
        DreamLedger x = Ledgers.withTags(16);
        x.addDream(0, 5);
        for (int term = 0; term < 20; term++) {
            Checks.same("addTagTerm", x.addTagTerm(term % 16), term);
            Checks.same("terms then", x.terms(), term + 1);
            Checks.same("matches those with its tag", x.matches(term, 0), term % 16 == 0);
        }
    }

    private static void addTagTermNoTag() {
        Document.promise(10, "Throws `IndexOutOfBoundsException` if there is no such tag");
        Numbers.ofTags("addTagTerm", (x, tag) -> x.addTagTerm(tag));
    }

    private static void addTagTerm20() {
        Document.promise(10, "Throws `IllegalStateException` if there are 20 terms");
        Checks.same("a 20th", with19().addTagTerm(0), 19);
        Twins.noState("a 21st", Ledgers.FULL, x -> x.addTagTerm(0));
        Twins.noState("a 21st, and again", Ledgers.FULL, x -> {
            Checks.noState("a 21st", x, () -> x.addTagTerm(15));
            x.addTagTerm(15);
        });
    }

    private static void addBothTermNumber() {
        Document.promise(11, "Returns the number of a new both term of these (they can be the same).");
        DreamLedger x = Ledgers.withDreams();
        Checks.same("of the first and the last", x.addBothTerm(0, 5), 6);
        Checks.same("those that both match", x.matchesOf(6), 1);
        Checks.same("of the same", x.addBothTerm(4, 4), 7);
        Checks.same("those that it matches", x.matchSame(7, 4), true);
        Checks.same("of the one just ahead", x.addBothTerm(7, 0), 8);
        for (int term = 9; term < 20; term++) {
            Checks.same("one more", x.addBothTerm(term - 1, 0), term);
        }
        Checks.same("the last of a line", x.matchSame(19, 8), true);
    }

    private static void addBothTermNoTerm() {
        Document.promise(11, NO_TERM);
        Numbers.ofTerms("addBothTerm, the first", (x, term) -> x.addBothTerm(term, 0));
        Numbers.ofTerms("addBothTerm, the second", (x, term) -> x.addBothTerm(0, term));
        Numbers.ofTerms("addBothTerm, both", (x, term) -> x.addBothTerm(term, term));
    }

    private static void addBothTerm20() {
        Document.promise(11, TWENTY);
        Checks.same("a 20th", with19().addBothTerm(0, 18), 19);
        Twins.noState("a 21st", Ledgers.FULL, x -> x.addBothTerm(0, 1));
        Twins.noState("a 21st, of the same", Ledgers.FULL, x -> x.addBothTerm(19, 19));
    }

    private static void addEitherTermNumber() {
        Document.promise(12, "Returns the number of a new either term of these (they can be the same).");
        DreamLedger x = Ledgers.withDreams();
        Checks.same("of the first and the last", x.addEitherTerm(0, 5), 6);
        Checks.same("those that one of them matches", x.matchesOf(6), 3);
        Checks.same("of the same", x.addEitherTerm(4, 4), 7);
        Checks.same("those that it matches", x.matchSame(7, 4), true);
        Checks.same("of the one just ahead", x.addEitherTerm(7, 0), 8);
        for (int term = 9; term < 20; term++) {
            Checks.same("one more", x.addEitherTerm(term - 1, 0), term);
        }
        Checks.same("the last of a line", x.matchSame(19, 8), true);
    }

    private static void addEitherTermNoTerm() {
        Document.promise(12, NO_TERM);
        Numbers.ofTerms("addEitherTerm, the first", (x, term) -> x.addEitherTerm(term, 0));
        Numbers.ofTerms("addEitherTerm, the second", (x, term) -> x.addEitherTerm(0, term));
        Numbers.ofTerms("addEitherTerm, both", (x, term) -> x.addEitherTerm(term, term));
    }

    private static void addEitherTerm20() {
        Document.promise(12, TWENTY);
        Checks.same("a 20th", with19().addEitherTerm(0, 18), 19);
        Twins.noState("a 21st", Ledgers.FULL, x -> x.addEitherTerm(0, 1));
        Twins.noState("a 21st, of the same", Ledgers.FULL, x -> x.addEitherTerm(19, 19));
    }

    private static void addWithoutTermNumber() {
        Document.promise(13, "Returns the number of a new without term of it.");
        DreamLedger x = Ledgers.withDreams();
        Checks.same("of the first", x.addWithoutTerm(0), 6);
        Checks.same("those that it does not match", x.matchesOf(6), 1);
        Checks.same("of the one just ahead", x.addWithoutTerm(6), 7);
        Checks.same("those that the first matches", x.matchSame(7, 0), true);
        for (int term = 8; term < 20; term++) {
            Checks.same("one more", x.addWithoutTerm(term - 1), term);
        }
        Checks.same("the last of a line", x.matchSame(19, 0), true);
        Checks.same("the one just ahead of it", x.matchSame(18, 6), true);
    }

    private static void addWithoutTermNoTerm() {
        Document.promise(13, NO_TERM);
        Numbers.ofTerms("addWithoutTerm", (x, term) -> x.addWithoutTerm(term));
    }

    private static void addWithoutTerm20() {
        Document.promise(13, TWENTY);
        Checks.same("a 20th", with19().addWithoutTerm(18), 19);
        Twins.noState("a 21st", Ledgers.FULL, x -> x.addWithoutTerm(0));
        Twins.noState("a 21st, of the last", Ledgers.FULL, x -> x.addWithoutTerm(19));
    }

    private static void clearTerms() {
        Document.promise(14, "Strikes out all terms.");
        DreamLedger x = Ledgers.full();
        x.clearTerms();
        Checks.same("terms then", x.terms(), 0);
        Checks.noIndex("the first one", x, () -> x.matchesOf(0));
        Checks.noIndex("the last one", x, () -> x.matchesOf(19));
        Checks.noIndex("a both term of one struck out", x, () -> x.addBothTerm(0, 0));
        Checks.noIndex("a without term of one struck out", x, () -> x.addWithoutTerm(0));
        Checks.same("tags stay", x.tags(), 16);
        Checks.same("dreams stay", x.dreams(), 24);
        Checks.same("nights stay", x.nights(), 3);
        for (int term = 0; term < 20; term++) {
            Checks.same("room for 20 again", x.addTagTerm(15), term);
        }
        Checks.same("the first one is a new one", x.matchesOf(0), x.dreamsWith(15));
        Checks.same("so is the last one", x.matchSame(0, 19), true);
    }

    private static void clearTermsCount() {
        Document.promise(14, "Returns how many there were.");
        DreamLedger x = Ledgers.full();
        Checks.same("20", x.clearTerms(), 20);
        Checks.same("none", x.clearTerms(), 0);
        Checks.same("none at first", new DreamLedger().clearTerms(), 0);
        Checks.same("one", Ledgers.withOne().clearTerms(), 1);
    }

    private static void matches() {
        Document.promise(27, "Returns whether the term matches it.");
        DreamLedger x = Ledgers.withTags(16);
        for (int dream = 0; dream < 24; dream++) {
            x.addDream(dream % 16, 5);
        }
        for (int term = 0; term < 19; term++) {
            x.addTagTerm(term % 16);
        }
        x.addWithoutTerm(0);
        Checks.same("the first dream", x.matches(0, 0), true);
        Checks.same("the second dream", x.matches(0, 1), false);
        Checks.same("the last dream", x.matches(7, 23), true);
        Checks.same("the last dream, another term", x.matches(8, 23), false);
        Checks.same("the last term", x.matches(19, 23), true);
        Checks.same("the last term, the first dream", x.matches(19, 0), false);
    }

    private static void matchesNoTermOrDream() {
        Document.promise(27, "Throws `IndexOutOfBoundsException` if there is no such term or dream");
        Numbers.ofTerms("matches", (x, term) -> x.matches(term, 0));
        Numbers.ofDreams("matches", (x, dream) -> x.matches(0, dream));
        Numbers.ofDreams("matches, the last term", (x, dream) -> x.matches(Math.max(0, x.terms() - 1), dream));
        DreamLedger x = Ledgers.withTags(1);
        x.addTagTerm(0);
        Checks.noIndex("a term, but no dream", x, () -> x.matches(0, 0));
        DreamLedger y = Ledgers.withTags(1);
        y.addDream(0, 5);
        Checks.noIndex("a dream, but no term", y, () -> y.matches(0, 0));
    }

    private static void matchesOf() {
        Document.promise(28, "Returns how many dreams it matches.");
        DreamLedger x = Ledgers.withTags(2);
        x.addTagTerm(0);
        x.addWithoutTerm(0);
        Checks.same("no dream is there", x.matchesOf(0), 0);
        Checks.same("no dream is there, without", x.matchesOf(1), 0);
        for (int dream = 0; dream < 24; dream++) {
            x.addDream(0, 5);
            Checks.same("all dreams", x.matchesOf(0), dream + 1);
            Checks.same("no dream", x.matchesOf(1), 0);
        }
        x.passNights(30);
        x.recall(23, 0);
        Checks.same("faded ones too", x.matchesOf(0), 24);
    }

    private static final String VIVID = "Returns the most vivid dream that it matches, of several the smallest number;";

    private static void mostVivid() {
        Document.promise(29, VIVID);
        DreamLedger x = Ledgers.withTags(2);
        x.addTagTerm(0);
        x.addDream(0, 1);
        Checks.same("the only one", x.mostVivid(0), 0);
        x.addDream(1, 9);
        Checks.same("a more vivid one is not matched", x.mostVivid(0), 0);
        x.addDream(0, 2);
        Checks.same("1 more vivid", x.mostVivid(0), 2);
        x.recall(0, 3);
        Checks.same("now the first", x.mostVivid(0), 0);
        DreamLedger full = Ledgers.withTags(1);
        for (int dream = 0; dream < 24; dream++) {
            full.addDream(0, dream == 23 ? 9 : 8);
        }
        full.addTagTerm(0);
        Checks.same("the last of 24", full.mostVivid(0), 23);
    }

    private static void mostVividOfSeveral() {
        Document.promise(29, VIVID);
        DreamLedger x = Ledgers.withTags(2);
        x.addTagTerm(0);
        x.addDream(1, 9);
        x.addDream(0, 4);
        for (int dream = 2; dream < 24; dream++) {
            x.addDream(0, 9);
        }
        Checks.same("of many of 9", x.mostVivid(0), 2);
        x.recall(1, 9);
        Checks.same("one more of 9", x.mostVivid(0), 1);
        for (int dream = 0; dream < 24; dream++) {
            x.recall(dream, 0);
        }
        Checks.same("of many of 0", x.mostVivid(0), 1);
        x.recall(23, 1);
        Checks.same("1 is more than 0", x.mostVivid(0), 23);
    }

    private static void mostVividWithoutOne() {
        Document.promise(29, VIVID);
        DreamLedger x = Ledgers.withTags(2);
        x.addTagTerm(0);
        x.addWithoutTerm(0);
        Checks.same("no dream is there", x.mostVivid(0), -1);
        Checks.same("no dream is there, without", x.mostVivid(1), -1);
        x.addDream(1, 9);
        Checks.same("no dream is matched", x.mostVivid(0), -1);
        x.recall(0, 0);
        Checks.same("one is matched, but has faded", x.mostVivid(1), 0);
    }

    private static final String COMMON = "Returns how many tags all dreams have that it matches; 0 without one.";

    private static void commonTags() {
        Document.promise(30, COMMON);
        DreamLedger x = Ledgers.longLine();
        x.addTagTerm(15);
        x.addDream(0, 5);
        Checks.same("all 16 of the only one", x.commonTags(0), 16);
        x.addDream(3, 5);
        Checks.same("those from above in common", x.commonTags(0), 13);
        x.addDream(15, 5);
        Checks.same("the highest alone", x.commonTags(0), 1);
        x.clearTerms();
        x.addTagTerm(3);
        Checks.same("those of the matched ones alone", x.commonTags(0), 13);
        DreamLedger y = Ledgers.withOwnTags(3, new int[][] {{0, 1}, {1, 2}, {0, 2}});
        Checks.same("two of three each, none in common", y.commonTags(Ledgers.ALL), 0);
        Checks.same("one in common", y.commonTags(0), 1);
        DreamLedger many = Ledgers.withTags(2);
        for (int dream = 0; dream < 24; dream++) {
            many.addDream(0, 5);
        }
        many.addTagTerm(0);
        Checks.same("of 24", many.commonTags(0), 1);
        many.tagDream(23, 1);
        Checks.same("of 24, the last with one more", many.commonTags(0), 1);
        many.untagDream(23, 0);
        many.addWithoutTerm(0);
        many.addEitherTerm(0, 1);
        Checks.same("of 24, the last with another one", many.commonTags(2), 0);
    }

    private static void commonTagsWithoutOne() {
        Document.promise(30, COMMON);
        DreamLedger x = Ledgers.withTags(16);
        x.addTagTerm(0);
        x.addWithoutTerm(0);
        Checks.same("no dream is there", x.commonTags(0), 0);
        Checks.same("no dream is there, without", x.commonTags(1), 0);
        x.addDream(1, 5);
        Checks.same("no dream is matched", x.commonTags(0), 0);
        Checks.same("one is matched", x.commonTags(1), 1);
    }

    private static void matchSame() {
        Document.promise(31, "Returns whether both match the same dreams.");
        DreamLedger x = Ledgers.withTags(4);
        for (int tag = 0; tag < 4; tag++) {
            x.addTagTerm(tag);
        }
        x.addWithoutTerm(3);
        Checks.same("no dream is there", x.matchSame(0, 4), true);
        x.addDream(0, 5);
        x.addDream(1, 5);
        Checks.same("as many, but others", x.matchSame(0, 1), false);
        Checks.same("none both", x.matchSame(2, 3), true);
        Checks.same("none and one", x.matchSame(2, 0), false);
        Checks.same("one and the same", x.matchSame(1, 1), true);
        x.tagDream(0, 2);
        Checks.same("the same by different tags", x.matchSame(0, 2), true);
        x.tagDream(1, 2);
        Checks.same("one more", x.matchSame(0, 2), false);
        Checks.same("one less", x.matchSame(2, 0), false);
        Checks.same("all both", x.matchSame(2, 4), true);
        for (int dream = 2; dream < 23; dream++) {
            x.addDream(2, 5);
        }
        x.addDream(3, 5);
        x.tagDream(23, 2);
        Checks.same("but for the 24th", x.matchSame(2, 4), false);
        x.untagDream(23, 2);
        Checks.same("neither the 24th", x.matchSame(2, 4), true);
    }

    private static void matchSameNoTerm() {
        Document.promise(31, NO_TERM);
        Numbers.ofTerms("matchSame, the first", (x, term) -> x.matchSame(term, 0));
        Numbers.ofTerms("matchSame, the second", (x, term) -> x.matchSame(0, term));
        Numbers.ofTerms("matchSame, both", (x, term) -> x.matchSame(term, term));
    }

    /** As many dreams as tags told, each with a tag of its own. */
    private static DreamLedger apart(int count) {
        int[][] own = new int[count][];
        for (int tag = 0; tag < count; tag++) {
            own[tag] = new int[] {tag};
        }
        return Ledgers.withOwnTags(16, own);
    }

    private static void coverSize() {
        Document.promise(32, "Returns how many tags its smallest cover has.");
        for (int count = 1; count <= 16; count++) {
            Checks.same("each dream by itself", apart(count).coverSize(Ledgers.ALL), count);
        }
        DreamLedger x = apart(16);
        for (int tag = 0; tag < 15; tag++) {
            x.putUnder(tag, 15);
            Checks.same("one more under the last", x.coverSize(Ledgers.ALL), 15 - tag);
        }
        DreamLedger none = Ledgers.withTags(1);
        none.addTagTerm(0);
        Checks.same("no dream", none.coverSize(0), 0);
        DreamLedger full = Ledgers.withTags(16);
        for (int dream = 0; dream < 24; dream++) {
            full.addDream(dream % 16, 5);
            full.tagDream(dream, (dream + 1) % 16);
        }
        full.addTagTerm(0);
        full.addWithoutTerm(0);
        full.addEitherTerm(0, 1);
        Checks.same("a ring of 16 tags", full.coverSize(2), 8);
    }

    private static void coverTag() {
        Document.promise(33, "Returns the tag there.");
        DreamLedger x = apart(16);
        for (int place = 0; place < 16; place++) {
            Checks.same("all tags, by their numbers", x.coverTag(Ledgers.ALL, place), place);
        }
        DreamLedger y = Ledgers.withOwnTags(16, new int[][] {{15}, {9}, {4, 12}});
        Checks.same("the first place", y.coverTag(Ledgers.ALL, 0), 4);
        Checks.same("the second place", y.coverTag(Ledgers.ALL, 1), 9);
        Checks.same("the last place", y.coverTag(Ledgers.ALL, 2), 15);
        DreamLedger one = Ledgers.withOne();
        Checks.same("the only tag", one.coverTag(0, 0), 0);
    }

    private static void coverTagPlace() {
        Document.promise(33, "`place`: a place in its smallest cover, from 0, by the numbers of tags");
        DreamLedger x = Ledgers.withOwnTags(16, new int[][] {{9}, {15}, {3}});
        Checks.noIndex("place -1", x, () -> x.coverTag(Ledgers.ALL, -1));
        Checks.same("place 0", x.coverTag(Ledgers.ALL, 0), 3);
        Checks.same("place 1", x.coverTag(Ledgers.ALL, 1), 9);
        Checks.same("place 2", x.coverTag(Ledgers.ALL, 2), 15);
        Checks.noIndex("place 3", x, () -> x.coverTag(Ledgers.ALL, 3));
    }

    private static final String NO_TERM_OR_PLACE =
            "Throws `IndexOutOfBoundsException` if there is no such term or place";

    private static void coverTagNoTerm() {
        Document.promise(33, NO_TERM_OR_PLACE);
        Numbers.ofTerms("coverTag", (x, term) -> x.coverTag(term, 0));
        Twins.noIndex("no such place either", Ledgers.FULL, x -> x.coverTag(20, 16));
        Twins.noIndex("no such place either", Ledgers.FULL, x -> x.coverTag(-1, -1));
    }

    private static void coverTagNoPlace() {
        Document.promise(33, NO_TERM_OR_PLACE);
        for (int size = 1; size <= 16; size++) {
            DreamLedger x = apart(size);
            int each = size;
            Checks.same("the last place of " + size, x.coverTag(Ledgers.ALL, size - 1), size - 1);
            Checks.noIndex("the place behind it, of " + size, x, () -> x.coverTag(Ledgers.ALL, each));
            Checks.noIndex("place -1 of " + size, x, () -> x.coverTag(Ledgers.ALL, -1));
        }
        DreamLedger none = Ledgers.withTags(1);
        none.addTagTerm(0);
        Checks.noIndex("place 0 of none", none, () -> none.coverTag(0, 0));
        Twins.noIndex("place -1", Ledgers.SMALL, x -> x.coverTag(0, -1));
        Twins.noIndex("place 1 of one", Ledgers.SMALL, x -> x.coverTag(0, 1));
        for (int place : new int[] {16, 24, 31, 32, 33, 64, -31, -32, Integer.MIN_VALUE, Integer.MAX_VALUE}) {
            Twins.noIndex("place " + place, Ledgers.FULL, x -> x.coverTag(11, place));
        }
    }

    private static void questionsOfNoTerm() {
        for (int promise : new int[] {28, 29, 30, 32}) {
            Document.promise(promise, NO_TERM);
            Numbers.ofTerms("term", (x, term) -> askOne(x, promise, term));
        }
    }

    private static void askOne(DreamLedger x, int promise, int term) {
        switch (promise) {
            case 28: x.matchesOf(term); break;
            case 29: x.mostVivid(term); break;
            case 30: x.commonTags(term); break;
            default: x.coverSize(term); break;
        }
    }
}
