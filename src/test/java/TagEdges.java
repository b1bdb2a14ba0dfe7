/** The sentences of the promises 1 to 4 and 15 to 21, each with the cases at its edges. */
final class TagEdges {
    private static final String NO_TAG = "Throws `IndexOutOfBoundsException` if there is no such tag";

    private TagEdges() {
    }

    static void all() {
        Checks.run(TagEdges::newObject);
        Checks.run(TagEdges::addTagNumber);
        Checks.run(TagEdges::addTagSixteen);
        Checks.run(TagEdges::putUnderInItsPlace);
        Checks.run(TagEdges::putUnderTagsAbove);
        Checks.run(TagEdges::putUnderNoTag);
        Checks.run(TagEdges::putUnderTheSame);
        Checks.run(TagEdges::putUnderOneBelow);
        Checks.run(TagEdges::freeTagUnderNone);
        Checks.run(TagEdges::freeTagParent);
        Checks.run(TagEdges::freeTagNoTag);
        Checks.run(TagEdges::freeTagWithoutParent);
        Checks.run(TagEdges::hasParent);
        Checks.run(TagEdges::parentOf);
        Checks.run(TagEdges::parentOfWithoutParent);
        Checks.run(TagEdges::tagsAbove);
        Checks.run(TagEdges::tagsBelow);
        Checks.run(TagEdges::isBelow);
        Checks.run(TagEdges::nearestAboveTheNearest);
        Checks.run(TagEdges::nearestAboveOneOfBoth);
        Checks.run(TagEdges::nearestAboveNone);
        Checks.run(TagEdges::dreamsWith);
        Checks.run(TagEdges::questionsOfNoTag);
    }

    private static void newObject() {
        Document.promise(1, "Creates a ledger without tags, dreams and terms, in the night 0.");
        DreamLedger x = new DreamLedger();
        Checks.same("tags", x.tags(), 0);
        Checks.same("dreams", x.dreams(), 0);
        Checks.same("terms", x.terms(), 0);
        Checks.same("nights", x.nights(), 0);
        Checks.same("fadedDreams", x.fadedDreams(), 0);
        Checks.same("meanVividness", x.meanVividness(), 0.0);
        Checks.same("digest", x.digest(), 1867L * 31 * 31 * 31 * 31 * 31);
        Checks.same("clearTerms", x.clearTerms(), 0);
        Checks.same("the first tag", x.addTag(), 0);
        Checks.same("the first dream", x.addDream(0, 1), 0);
        Checks.same("the first term", x.addTagTerm(0), 0);
        Checks.same("the first night", x.nightOf(0), 0);
        Ledgers.full();
        Checks.same("a new one beside a full one, tags", new DreamLedger().tags(), 0);
        Checks.same("a new one beside a full one, digest", new DreamLedger().digest(), 1867L * 31 * 31 * 31 * 31 * 31);
    }

    private static void addTagNumber() {
        Document.promise(2, "Returns the number of a new tag.");
        DreamLedger x = new DreamLedger();
        for (int tag = 0; tag < 16; tag++) {
            Checks.same("addTag", x.addTag(), tag);
            Checks.same("tags then", x.tags(), tag + 1);
            Checks.same("the new one has no parent", x.hasParent(tag), false);
            Checks.same("the new one has none above", x.tagsAbove(tag), 0);
            Checks.same("the new one has none below", x.tagsBelow(tag), 0);
            Checks.same("no dream has it", x.dreamsWith(tag), 0);
        }
    }

    private static void addTagSixteen() {
        Document.promise(2, "Throws `IllegalStateException` if there are 16");
        Checks.same("the 16th", Ledgers.withTags(15).addTag(), 15);
        Twins.noState("a 17th", Ledgers.FULL, DreamLedger::addTag);
        Twins.noState("a 17th, and again", Ledgers.FULL, x -> {
            Checks.noState("a 17th", x, x::addTag);
            x.addTag();
        });
    }

    private static void putUnderInItsPlace() {
        Document.promise(3, "Puts a tag under another one, in the place of the parent that it had.");
        DreamLedger x = Ledgers.withTags(16);
        x.putUnder(1, 0);
        Checks.same("under the first tag", x.parentOf(1), 0);
        x.putUnder(1, 15);
        Checks.same("under the last tag in its place", x.parentOf(1), 15);
        Checks.same("below the first tag", x.tagsBelow(0), 0);
        Checks.same("below the last tag", x.tagsBelow(15), 1);
        x.putUnder(1, 15);
        Checks.same("under the same again", x.parentOf(1), 15);
        x.putUnder(2, 1);
        x.putUnder(1, 0);
        Checks.same("those below come along", x.isBelow(2, 0), true);
        Checks.same("and leave the one before", x.isBelow(2, 15), false);
        Checks.same("their parent stays", x.parentOf(2), 1);
    }

    private static void putUnderTagsAbove() {
        Document.promise(3, "Returns how many tags are above it then.");
        DreamLedger x = Ledgers.withTags(16);
        for (int tag = 14; tag >= 0; tag--) {
            Checks.same("under a line", x.putUnder(tag, tag + 1), 15 - tag);
        }
        Checks.same("under the highest", x.putUnder(0, 15), 1);
        Checks.same("under the lowest", x.putUnder(0, 1), 15);
        x.freeTag(8);
        Checks.same("takes those below along, and counts those above", x.putUnder(8, 15), 1);
    }

    private static void putUnderNoTag() {
        Document.promise(3, NO_TAG);
        Numbers.ofTags("putUnder, tag", (x, tag) -> x.putUnder(tag, 0));
        Numbers.ofTags("putUnder, parent", (x, tag) -> x.putUnder(0, tag));
        Numbers.ofTags("putUnder, both", (x, tag) -> x.putUnder(tag, tag));
    }

    private static void putUnderTheSame() {
        Document.promise(3, "Throws `IllegalArgumentException` if both are the same");
        Twins.noArgument("the only tag", Ledgers.ONE, x -> x.putUnder(0, 0));
        for (int tag = 0; tag < 16; tag++) {
            int each = tag;
            Twins.noArgument("tag " + tag, Ledgers.FULL, x -> x.putUnder(each, each));
        }
        Checks.same("the next one", Ledgers.withTags(2).putUnder(0, 1), 1);
        Checks.same("the one before", Ledgers.withTags(2).putUnder(1, 0), 1);
    }

    private static void putUnderOneBelow() {
        Document.promise(3, "Throws `IllegalStateException` if the parent is below the tag");
        Twins.noState("just below", Ledgers.SMALL, x -> x.putUnder(1, 3));
        Twins.noState("two below", Ledgers.SMALL, x -> x.putUnder(0, 3));
        Ledgers.Start line = Ledgers::longLine;
        for (int below = 0; below < 15; below++) {
            int each = below;
            Twins.noState("below the highest, " + below, line, x -> x.putUnder(15, each));
        }
        DreamLedger x = Ledgers.withTree();
        Checks.same("beside it", x.putUnder(1, 2), 2);
        Checks.same("above its parent", x.putUnder(1, 0), 1);
        Checks.same("below its parent, not below it", x.putUnder(3, 2), 2);
        Checks.same("no longer below it", x.putUnder(1, 3), 3);
        Checks.same("in another tree", x.putUnder(0, 5), 2);
    }

    private static void freeTagUnderNone() {
        Document.promise(4, "Takes a tag from under its parent; it stands under none then.");
        DreamLedger x = Ledgers.longLine();
        x.freeTag(7);
        Checks.same("its parent", x.hasParent(7), false);
        Checks.same("tags above it", x.tagsAbove(7), 0);
        Checks.same("tags below it stay", x.tagsBelow(7), 7);
        Checks.same("the lowest is below it", x.tagsAbove(0), 7);
        Checks.same("those above it stay", x.tagsAbove(8), 7);
        Checks.same("none is below its parent", x.tagsBelow(8), 0);
        Checks.same("it can be put there again", x.putUnder(7, 8), 8);
    }

    private static void freeTagParent() {
        Document.promise(4, "Returns the parent that it had.");
        DreamLedger x = Ledgers.withTags(16);
        x.putUnder(1, 0);
        x.putUnder(2, 15);
        x.putUnder(3, 4);
        x.putUnder(3, 5);
        Checks.same("the first tag", x.freeTag(1), 0);
        Checks.same("the last tag", x.freeTag(2), 15);
        Checks.same("the latter one", x.freeTag(3), 5);
    }

    private static void freeTagNoTag() {
        Document.promise(4, NO_TAG);
        Numbers.ofTags("freeTag", (x, tag) -> x.freeTag(tag));
    }

    private static void freeTagWithoutParent() {
        Document.promise(4, "Throws `IllegalStateException` if it has none");
        Twins.noState("never had one", Ledgers.SMALL, x -> x.freeTag(4));
        Twins.noState("the only tag", Ledgers.ONE, x -> x.freeTag(0));
        Twins.noState("the last of 16", Ledgers.FULL, x -> x.freeTag(15));
        DreamLedger x = Ledgers.withTree();
        x.freeTag(1);
        Checks.noState("freed before", x, () -> x.freeTag(1));
        Checks.same("one below it", x.freeTag(3), 1);
    }

    private static void hasParent() {
        Document.promise(15, "Returns whether it has a parent.");
        DreamLedger x = Ledgers.withTags(16);
        Checks.same("at first", x.hasParent(0), false);
        x.putUnder(1, 0);
        Checks.same("the first tag", x.hasParent(1), true);
        Checks.same("the parent itself", x.hasParent(0), false);
        x.putUnder(0, 15);
        Checks.same("the last tag", x.hasParent(0), true);
        x.freeTag(1);
        Checks.same("freed", x.hasParent(1), false);
    }

    private static void parentOf() {
        Document.promise(16, "Returns its parent.");
        DreamLedger x = Ledgers.longLine();
        for (int tag = 0; tag < 15; tag++) {
            Checks.same("the next one", x.parentOf(tag), tag + 1);
        }
        x.putUnder(3, 15);
        Checks.same("the one from now on", x.parentOf(3), 15);
        DreamLedger y = Ledgers.withTags(2);
        y.putUnder(1, 0);
        Checks.same("the first tag", y.parentOf(1), 0);
    }

    private static void parentOfWithoutParent() {
        Document.promise(16, "Throws `IllegalStateException` if it has none");
        Twins.noState("never had one", Ledgers.SMALL, x -> x.parentOf(0));
        Twins.noState("the only tag", Ledgers.ONE, x -> x.parentOf(0));
        Twins.noState("the last of 16", Ledgers.FULL, x -> x.parentOf(15));
        DreamLedger x = Ledgers.withTree();
        x.freeTag(1);
        Checks.noState("freed before", x, () -> x.parentOf(1));
    }

    private static void tagsAbove() {
        Document.promise(17, "Returns how many tags are above it.");
        Checks.same("none, the only tag", Ledgers.withTags(1).tagsAbove(0), 0);
        DreamLedger x = Ledgers.longLine();
        for (int tag = 0; tag < 16; tag++) {
            Checks.same("in a line of 16, " + tag, x.tagsAbove(tag), 15 - tag);
        }
        DreamLedger y = Ledgers.withTree();
        Checks.same("none beside it", y.tagsAbove(2), 1);
        y.putUnder(0, 5);
        Checks.same("in a higher tree", y.tagsAbove(3), 4);
        y.freeTag(1);
        Checks.same("below a freed one", y.tagsAbove(3), 1);
    }

    private static void tagsBelow() {
        Document.promise(18, "Returns how many tags are below it.");
        Checks.same("none, the only tag", Ledgers.withTags(1).tagsBelow(0), 0);
        DreamLedger x = Ledgers.longLine();
        for (int tag = 0; tag < 16; tag++) {
            Checks.same("in a line of 16, " + tag, x.tagsBelow(tag), tag);
        }
        DreamLedger star = Ledgers.withTags(16);
        for (int tag = 0; tag < 15; tag++) {
            star.putUnder(tag, 15);
        }
        Checks.same("all 15 just below", star.tagsBelow(15), 15);
        Checks.same("none beside it", star.tagsBelow(0), 0);
        star.freeTag(0);
        Checks.same("one freed", star.tagsBelow(15), 14);
    }

    private static void isBelow() {
        Document.promise(19, "Returns whether the first one is below the second one.");
        DreamLedger x = Ledgers.longLine();
        for (int tag = 0; tag < 16; tag++) {
            for (int other = 0; other < 16; other++) {
                Checks.same("in a line of 16, " + tag + " " + other, x.isBelow(tag, other), tag < other);
            }
        }
        DreamLedger y = Ledgers.withTree();
        Checks.same("beside it", y.isBelow(1, 2), false);
        Checks.same("in another tree", y.isBelow(5, 0), false);
        Checks.same("the only tag", Ledgers.withTags(1).isBelow(0, 0), false);
    }

    private static final String NEAREST = "Returns the tag with the most tags above it, of those that are above both,";

    private static void nearestAboveTheNearest() {
        Document.promise(20, NEAREST);
        DreamLedger x = Ledgers.longLine();
        x.putUnder(0, 2);
        Checks.same("the lowest above both, in a line of 15", x.nearestAbove(0, 1), 2);
        x.putUnder(0, 15);
        Checks.same("the highest of 15", x.nearestAbove(0, 1), 15);
        DreamLedger y = Ledgers.withTags(6);
        y.putUnder(0, 5);
        y.putUnder(1, 0);
        y.putUnder(2, 1);
        y.putUnder(4, 1);
        Checks.same("neither the smallest nor the greatest number", y.nearestAbove(2, 4), 1);
        Checks.same("in either order", y.nearestAbove(4, 2), 1);
        y.putUnder(4, 0);
        Checks.same("at different heights", y.nearestAbove(2, 4), 0);
    }

    private static void nearestAboveOneOfBoth() {
        Document.promise(20, NEAREST);
        DreamLedger x = Ledgers.longLine();
        for (int tag = 0; tag < 16; tag++) {
            for (int other = 0; other < 16; other++) {
                Checks.same("in a line of 16, " + tag + " " + other, x.nearestAbove(tag, other), Math.max(tag, other));
            }
        }
        Checks.same("the same, without a parent", Ledgers.withTags(1).nearestAbove(0, 0), 0);
    }

    private static void nearestAboveNone() {
        Document.promise(20, NEAREST);
        DreamLedger x = Ledgers.withTree();
        Checks.same("in two trees", x.nearestAbove(3, 5), -1);
        Checks.same("at the top of two trees", x.nearestAbove(0, 4), -1);
        Checks.same("the top of one and a low one of another", x.nearestAbove(0, 5), -1);
        x.putUnder(4, 0);
        Checks.same("in one tree", x.nearestAbove(3, 5), 0);
        x.freeTag(4);
        Checks.same("in two trees again", x.nearestAbove(3, 5), -1);
    }

    private static void dreamsWith() {
        Document.promise(21, "Returns how many dreams have it.");
        DreamLedger x = Ledgers.longLine();
        Checks.same("none is there", x.dreamsWith(0), 0);
        x.addDream(14, 5);
        x.tagDream(0, 13);
        Checks.same("its own", x.dreamsWith(14), 1);
        Checks.same("above two of its own", x.dreamsWith(15), 1);
        Checks.same("below its own", x.dreamsWith(12), 0);
        for (int dream = 1; dream < 24; dream++) {
            x.addDream(dream % 16, 5);
        }
        Checks.same("all 24", x.dreamsWith(15), 24);
        x.recall(0, 0);
        Checks.same("all 24, one faded", x.dreamsWith(15), 24);
        x.freeTag(14);
        Checks.same("its own alone", x.dreamsWith(15), 1);
    }

    private static void questionsOfNoTag() {
        for (int promise : new int[] {15, 16, 17, 18, 21}) {
            Document.promise(promise, NO_TAG);
            Numbers.ofTags("tag", (x, tag) -> askOne(x, promise, tag));
        }
        for (int promise : new int[] {19, 20}) {
            Document.promise(promise, NO_TAG);
            Numbers.ofTags("the first", (x, tag) -> askTwo(x, promise, tag, 0));
            Numbers.ofTags("the second", (x, tag) -> askTwo(x, promise, 0, tag));
            Numbers.ofTags("both", (x, tag) -> askTwo(x, promise, tag, tag));
        }
    }

    private static void askOne(DreamLedger x, int promise, int tag) {
        switch (promise) {
            case 15: x.hasParent(tag); break;
            case 16: x.parentOf(tag); break;
            case 17: x.tagsAbove(tag); break;
            case 18: x.tagsBelow(tag); break;
            default: x.dreamsWith(tag); break;
        }
    }

    private static void askTwo(DreamLedger x, int promise, int first, int second) {
        if (promise == 19) {
            x.isBelow(first, second);
        } else {
            x.nearestAbove(first, second);
        }
    }
}
