/** The sentences of the promises 5 to 9 and 22 to 26, each with the cases at its edges. */
final class DreamEdges {
    private static final String NO_DREAM = "Throws `IndexOutOfBoundsException` if there is no such dream";
    private static final String NO_DREAM_OR_TAG = "Throws `IndexOutOfBoundsException` if there is no such dream or tag";
    private static final int[] FAR_OFF = {-10, -100, 11, 16, 100, 256 + 5, Integer.MIN_VALUE, Integer.MAX_VALUE};

    private DreamEdges() {
    }

    static void all() {
        Checks.run(DreamEdges::addDream);
        Checks.run(DreamEdges::addDreamNumber);
        Checks.run(DreamEdges::addDreamNoTag);
        Checks.run(DreamEdges::addDreamVividness);
        Checks.run(DreamEdges::addDream24);
        Checks.run(DreamEdges::tagDream);
        Checks.run(DreamEdges::tagDreamOwnTags);
        Checks.run(DreamEdges::tagDreamNoDreamOrTag);
        Checks.run(DreamEdges::tagDreamItsOwn);
        Checks.run(DreamEdges::untagDream);
        Checks.run(DreamEdges::untagDreamOwnTags);
        Checks.run(DreamEdges::untagDreamNoDreamOrTag);
        Checks.run(DreamEdges::untagDreamNoneOfItsOwn);
        Checks.run(DreamEdges::untagDreamTheOnlyOne);
        Checks.run(DreamEdges::recall);
        Checks.run(DreamEdges::recallBefore);
        Checks.run(DreamEdges::recallNoDream);
        Checks.run(DreamEdges::recallVividness);
        Checks.run(DreamEdges::passNights);
        Checks.run(DreamEdges::passNightsFaded);
        Checks.run(DreamEdges::passNightsHowMany);
        Checks.run(DreamEdges::hasOwnTag);
        Checks.run(DreamEdges::hasTag);
        Checks.run(DreamEdges::tagsOf);
        Checks.run(DreamEdges::vividnessOf);
        Checks.run(DreamEdges::nightOf);
        Checks.run(DreamEdges::questionsOfNoDream);
    }

    private static void addDream() {
        Document.promise(5, "Writes a dream down.");
        DreamLedger x = Ledgers.withTags(16);
        x.passNights(3);
        x.addDream(0, 1);
        x.addDream(15, 9);
        Checks.same("the first tag", x.hasOwnTag(0, 0), true);
        Checks.same("no other tag", x.tagsOf(0), 1);
        Checks.same("the last tag", x.hasOwnTag(1, 15), true);
        Checks.same("the least vividness", x.vividnessOf(0), 1);
        Checks.same("the greatest vividness", x.vividnessOf(1), 9);
        Checks.same("in this night", x.nightOf(1), 3);
        Checks.same("no night more", x.nights(), 3);
    }

    private static void addDreamNumber() {
        Document.promise(5, "Returns its number.");
        DreamLedger x = Ledgers.withTags(16);
        for (int dream = 0; dream < 24; dream++) {
            Checks.same("addDream", x.addDream(dream % 16, 1 + dream % 9), dream);
            Checks.same("dreams then", x.dreams(), dream + 1);
        }
    }

    private static void addDreamNoTag() {
        Document.promise(5, "Throws `IndexOutOfBoundsException` if there is no such tag");
        Numbers.ofTags("addDream", (x, tag) -> x.addDream(tag, 5));
    }

    private static void addDreamVividness() {
        Document.promise(5, "Throws `IllegalArgumentException` if vividness is not 1 to 9");
        DreamLedger x = Ledgers.withTags(1);
        for (int vividness = 1; vividness <= 9; vividness++) {
            x.addDream(0, vividness);
            Checks.same("vividness " + vividness, x.vividnessOf(vividness - 1), vividness);
        }
        for (int vividness : new int[] {-9, -1, 0, 10}) {
            Twins.noArgument("vividness " + vividness, Ledgers.SMALL, y -> y.addDream(0, vividness));
        }
        for (int vividness : FAR_OFF) {
            Twins.noArgument("vividness " + vividness, Ledgers.SMALL, y -> y.addDream(0, vividness));
        }
    }

    private static void addDream24() {
        Document.promise(5, "Throws `IllegalStateException` if there are 24");
        DreamLedger x = Ledgers.withTags(1);
        for (int dream = 0; dream < 23; dream++) {
            x.addDream(0, 5);
        }
        Checks.same("a 24th", x.addDream(0, 5), 23);
        Twins.noState("a 25th", Ledgers.FULL, y -> y.addDream(0, 5));
        Twins.noState("a 25th, and again", Ledgers.FULL, y -> {
            Checks.noState("a 25th", y, () -> y.addDream(15, 9));
            y.addDream(0, 1);
        });
    }

    private static void tagDream() {
        Document.promise(6, "Gives a dream one more tag of its own.");
        DreamLedger x = Ledgers.withTags(16);
        x.addDream(7, 5);
        x.addDream(7, 5);
        x.tagDream(1, 0);
        x.tagDream(1, 15);
        Checks.same("the first tag", x.hasOwnTag(1, 0), true);
        Checks.same("the last tag", x.hasOwnTag(1, 15), true);
        Checks.same("the one before", x.hasOwnTag(1, 7), true);
        Checks.same("none else", x.tagsOf(1), 3);
        Checks.same("none of another dream", x.tagsOf(0), 1);
    }

    private static void tagDreamOwnTags() {
        Document.promise(6, "Returns how many own tags it has then.");
        DreamLedger x = Ledgers.longLine();
        x.addDream(0, 5);
        for (int tag = 1; tag < 16; tag++) {
            Checks.same("own tags, not those above", x.tagDream(0, tag), tag + 1);
        }
        x.addDream(3, 5);
        Checks.same("of another dream", x.tagDream(1, 15), 2);
    }

    private static void tagDreamNoDreamOrTag() {
        Document.promise(6, NO_DREAM_OR_TAG);
        Numbers.ofDreams("tagDream", (x, dream) -> x.tagDream(dream, 0));
        Numbers.ofTags("tagDream", (x, tag) -> x.tagDream(0, tag));
        Numbers.ofTags("tagDream, the last dream", (x, tag) -> x.tagDream(Math.max(0, x.dreams() - 1), tag));
    }

    private static void tagDreamItsOwn() {
        Document.promise(6, "Throws `IllegalStateException` if it is one of its own");
        Twins.noState("the only one", Ledgers.ONE, x -> x.tagDream(0, 0));
        Twins.noState("the first of two", Ledgers.SMALL, x -> x.tagDream(0, 3));
        Twins.noState("the second of two", Ledgers.SMALL, x -> x.tagDream(0, 5));
        Twins.noState("the last tag of a full ledger", Ledgers.FULL, x -> x.tagDream(3, 15));
        DreamLedger x = Ledgers.withDreams();
        Checks.same("just above one of its own", x.tagDream(0, 1), 3);
        Checks.same("far above one of its own", x.tagDream(0, 0), 4);
        Checks.same("below one of its own", x.tagDream(3, 3), 2);
        x.untagDream(0, 5);
        Checks.same("no longer its own", x.tagDream(0, 5), 4);
    }

    private static void untagDream() {
        Document.promise(7, "Takes one of its own tags from a dream.");
        DreamLedger x = Ledgers.withTags(16);
        x.addDream(0, 5);
        x.tagDream(0, 15);
        x.tagDream(0, 7);
        x.addDream(0, 5);
        x.tagDream(1, 15);
        x.untagDream(0, 0);
        Checks.same("the first tag", x.hasOwnTag(0, 0), false);
        x.untagDream(0, 15);
        Checks.same("the last tag", x.hasOwnTag(0, 15), false);
        Checks.same("the one left", x.hasOwnTag(0, 7), true);
        Checks.same("none else", x.tagsOf(0), 1);
        Checks.same("another dream's own", x.tagsOf(1), 2);
        x.putUnder(15, 0);
        x.untagDream(1, 0);
        Checks.same("not its own", x.hasOwnTag(1, 0), false);
        Checks.same("but above its own", x.hasTag(1, 0), true);
    }

    private static void untagDreamOwnTags() {
        Document.promise(7, "Returns how many own tags it has then.");
        DreamLedger x = Ledgers.longLine();
        x.addDream(0, 5);
        for (int tag = 1; tag < 16; tag++) {
            x.tagDream(0, tag);
        }
        for (int tag = 15; tag >= 1; tag--) {
            Checks.same("own tags, not those above", x.untagDream(0, tag), tag);
        }
    }

    private static void untagDreamNoDreamOrTag() {
        Document.promise(7, NO_DREAM_OR_TAG);
        Numbers.ofDreams("untagDream", (x, dream) -> x.untagDream(dream, 0));
        Numbers.ofTags("untagDream", (x, tag) -> x.untagDream(0, tag));
        Numbers.ofTags("untagDream, the last dream", (x, tag) -> x.untagDream(Math.max(0, x.dreams() - 1), tag));
    }

    private static final String NOT_OR_ONLY =
            "Throws `IllegalStateException` if it is none of its own, or the only one";

    private static void untagDreamNoneOfItsOwn() {
        Document.promise(7, NOT_OR_ONLY);
        Twins.noState("another tag", Ledgers.SMALL, x -> x.untagDream(0, 2));
        Twins.noState("a tag just above its own", Ledgers.SMALL, x -> x.untagDream(0, 1));
        Twins.noState("a tag far above its own", Ledgers.SMALL, x -> x.untagDream(0, 0));
        Twins.noState("a tag below its own", Ledgers.SMALL, x -> x.untagDream(3, 1));
        Twins.noState("another tag than its only one", Ledgers.SMALL, x -> x.untagDream(2, 0));
        Twins.noState("the first tag of a full ledger", Ledgers.FULL, x -> x.untagDream(3, 0));
        DreamLedger x = Ledgers.withDreams();
        Checks.same("its own", x.untagDream(0, 5), 1);
        Checks.noState("its own no longer", x, () -> x.untagDream(0, 5));
    }

    private static void untagDreamTheOnlyOne() {
        Document.promise(7, NOT_OR_ONLY);
        Twins.noState("the only tag", Ledgers.ONE, x -> x.untagDream(0, 0));
        Twins.noState("the first tag", Ledgers.SMALL, x -> x.untagDream(3, 0));
        Twins.noState("one with tags above", Ledgers.SMALL, x -> x.untagDream(1, 2));
        Twins.noState("the last tag of a full ledger", Ledgers.FULL, x -> x.untagDream(3, 15));
        DreamLedger x = Ledgers.withDreams();
        Checks.same("one of two", x.untagDream(0, 3), 1);
        Checks.noState("the one left", x, () -> x.untagDream(0, 5));
        x.tagDream(0, 0);
        Checks.same("one of two again", x.untagDream(0, 5), 1);
    }

    private static void recall() {
        Document.promise(8, "Makes a dream as vivid as told.");
        DreamLedger x = Ledgers.withDreams();
        for (int vividness = 0; vividness <= 9; vividness++) {
            x.recall(1, vividness);
            Checks.same("vividness " + vividness, x.vividnessOf(1), vividness);
        }
        Checks.same("the dream before", x.vividnessOf(0), 6);
        Checks.same("the dream behind", x.vividnessOf(2), 8);
        x.recall(3, 9);
        x.recall(0, 0);
        Checks.same("the latest one", x.vividnessOf(3), 9);
        Checks.same("the first one", x.vividnessOf(0), 0);
        x.recall(0, 3);
        x.passNights(1);
        Checks.same("fades from there on", x.vividnessOf(0), 2);
    }

    private static void recallBefore() {
        Document.promise(8, "Returns the one before.");
        DreamLedger x = Ledgers.withTags(2);
        x.addDream(0, 9);
        x.addDream(1, 1);
        Checks.same("the greatest", x.recall(0, 9), 9);
        Checks.same("the greatest again", x.recall(0, 0), 9);
        Checks.same("the least", x.recall(0, 0), 0);
        Checks.same("the least again", x.recall(0, 5), 0);
        x.passNights(2);
        Checks.same("two nights later", x.recall(0, 1), 3);
        Checks.same("another dream", x.recall(1, 2), 1);
    }

    private static void recallNoDream() {
        Document.promise(8, NO_DREAM);
        Numbers.ofDreams("recall", (x, dream) -> x.recall(dream, 5));
    }

    private static void recallVividness() {
        Document.promise(8, "Throws `IllegalArgumentException` if vividness is not 0 to 9");
        DreamLedger x = Ledgers.withOne();
        Checks.same("vividness 0", x.recall(0, 0), 5);
        Checks.same("vividness 9", x.recall(0, 9), 0);
        Checks.same("vividness 1", x.recall(0, 1), 9);
        for (int vividness : new int[] {-9, -1, 10}) {
            Twins.noArgument("vividness " + vividness, Ledgers.SMALL, y -> y.recall(0, vividness));
            Twins.noArgument("the last of 24, vividness " + vividness, Ledgers.FULL, y -> y.recall(23, vividness));
        }
        for (int vividness : FAR_OFF) {
            Twins.noArgument("vividness " + vividness, Ledgers.SMALL, y -> y.recall(3, vividness));
        }
    }

    private static void passNights() {
        Document.promise(9, "Lets nights go by.");
        for (int nights = 1; nights <= 30; nights++) {
            DreamLedger x = Ledgers.withTags(2);
            x.addDream(0, 9);
            x.addDream(1, 9);
            x.passNights(nights);
            Checks.same("nights", x.nights(), nights);
            Checks.same("vividness " + nights + " nights later", x.vividnessOf(0), Math.max(0, 9 - nights));
            Checks.same("the latest one", x.vividnessOf(1), 9);
        }
        DreamLedger y = Ledgers.full();
        DreamLedger twin = Ledgers.full();
        y.passNights(5);
        for (int night = 0; night < 5; night++) {
            twin.passNights(1);
        }
        Checks.same("five at once, or one by one", y.digest(), twin.digest());
    }

    private static void passNightsFaded() {
        Document.promise(9, "Returns how many dreams have a vividness of 0 then.");
        Checks.same("no dream is there", new DreamLedger().passNights(30), 0);
        DreamLedger x = Ledgers.withTags(2);
        x.addDream(0, 9);
        Checks.same("the only one is the latest", x.passNights(30), 0);
        for (int dream = 1; dream < 24; dream++) {
            x.addDream(dream == 23 ? 1 : 0, 2 + dream % 8);
        }
        Checks.same("all as vivid as 2 at least", x.passNights(1), 0);
        Checks.same("those of 2 have faded", x.passNights(1), 2);
        Checks.same("all but the latest", x.passNights(30), 23);
        x.recall(23, 0);
        Checks.same("all 24", x.passNights(1), 24);
        x.recall(0, 1);
        x.recall(1, 2);
        Checks.same("one is vivid still", x.passNights(1), 23);
    }

    private static void passNightsHowMany() {
        Document.promise(9, "Throws `IllegalArgumentException` if nights is not 1 to 30");
        DreamLedger x = Ledgers.withDreams();
        x.passNights(1);
        Checks.same("1", x.nights(), 1);
        x.passNights(30);
        Checks.same("30", x.nights(), 31);
        for (int nights : new int[] {-30, -1, 0, 31}) {
            Twins.noArgument("nights " + nights, Ledgers.SMALL, y -> y.passNights(nights));
            Twins.noArgument("of none, nights " + nights, Ledgers.EMPTY, y -> y.passNights(nights));
        }
        for (int nights : new int[] {32, 62, 1000, 256 + 5, Integer.MIN_VALUE, Integer.MAX_VALUE}) {
            Twins.noArgument("nights " + nights, Ledgers.FULL, y -> y.passNights(nights));
        }
    }

    private static void hasOwnTag() {
        Document.promise(22, "Returns whether it is one of its own.");
        DreamLedger x = Ledgers.longLine();
        x.addDream(0, 5);
        x.addDream(15, 5);
        for (int tag = 0; tag < 16; tag++) {
            Checks.same("of one with all above, " + tag, x.hasOwnTag(0, tag), tag == 0);
            Checks.same("of one with all below, " + tag, x.hasOwnTag(1, tag), tag == 15);
        }
        x.tagDream(0, 15);
        Checks.same("one more", x.hasOwnTag(0, 15), true);
        x.untagDream(0, 0);
        Checks.same("one less", x.hasOwnTag(0, 0), false);
        DreamLedger full = Ledgers.full();
        Checks.same("the last dream", full.hasOwnTag(23, 23 * 5 % 16), true);
    }

    private static void hasTag() {
        Document.promise(23, "Returns whether the dream has it.");
        DreamLedger x = Ledgers.longLine();
        x.addDream(8, 5);
        for (int tag = 0; tag < 16; tag++) {
            Checks.same("its own and those above, " + tag, x.hasTag(0, tag), tag >= 8);
        }
        x.freeTag(10);
        for (int tag = 0; tag < 16; tag++) {
            Checks.same("up to the one freed, " + tag, x.hasTag(0, tag), tag >= 8 && tag <= 10);
        }
        DreamLedger full = Ledgers.full();
        Checks.same("the last dream", full.hasTag(23, 23 * 5 % 16), true);
    }

    private static void tagsOf() {
        Document.promise(24, "Returns how many tags it has, its own and those above them.");
        DreamLedger x = Ledgers.longLine();
        x.addDream(15, 5);
        x.addDream(0, 5);
        x.addDream(14, 5);
        Checks.same("one, at the top", x.tagsOf(0), 1);
        Checks.same("all 16", x.tagsOf(1), 16);
        Checks.same("two", x.tagsOf(2), 2);
        x.tagDream(2, 15);
        Checks.same("two, one of them its own and above its own", x.tagsOf(2), 2);
        x.tagDream(2, 12);
        Checks.same("those above two of its own once", x.tagsOf(2), 4);
    }

    private static void vividnessOf() {
        Document.promise(25, "Returns how vivid it is.");
        DreamLedger x = Ledgers.withTags(2);
        x.addDream(0, 9);
        x.addDream(1, 1);
        Checks.same("the greatest", x.vividnessOf(0), 9);
        Checks.same("the least of a new one", x.vividnessOf(1), 1);
        x.passNights(8);
        Checks.same("eight nights later", x.vividnessOf(0), 1);
        x.passNights(1);
        Checks.same("nine nights later", x.vividnessOf(0), 0);
        x.passNights(1);
        Checks.same("ten nights later", x.vividnessOf(0), 0);
        Checks.same("the latest one", x.vividnessOf(1), 1);
        Checks.same("the last of 24", Ledgers.full().vividnessOf(23), 6);
    }

    private static void nightOf() {
        Document.promise(26, "Returns the night in which it was written down.");
        DreamLedger x = Ledgers.withTags(2);
        for (int dream = 0; dream < 24; dream++) {
            x.addDream(dream % 2, 5);
            Checks.same("this night", x.nightOf(dream), 30 * dream);
            x.passNights(30);
        }
        Checks.same("the first one still", x.nightOf(0), 0);
        Checks.same("the last one still", x.nightOf(23), 690);
        x.recall(23, 9);
        x.tagDream(23, 0);
        Checks.same("changed", x.nightOf(23), 690);
    }

    private static void questionsOfNoDream() {
        for (int promise : new int[] {22, 23}) {
            Document.promise(promise, NO_DREAM_OR_TAG);
            Numbers.ofDreams("dream", (x, dream) -> askWithTag(x, promise, dream, 0));
            Numbers.ofTags("tag", (x, tag) -> askWithTag(x, promise, 0, tag));
        }
        for (int promise : new int[] {24, 25, 26}) {
            Document.promise(promise, NO_DREAM);
            Numbers.ofDreams("dream", (x, dream) -> askOne(x, promise, dream));
        }
    }

    private static void askWithTag(DreamLedger x, int promise, int dream, int tag) {
        if (promise == 22) {
            x.hasOwnTag(dream, tag);
        } else {
            x.hasTag(dream, tag);
        }
    }

    private static void askOne(DreamLedger x, int promise, int dream) {
        switch (promise) {
            case 24: x.tagsOf(dream); break;
            case 25: x.vividnessOf(dream); break;
            default: x.nightOf(dream); break;
        }
    }
}
