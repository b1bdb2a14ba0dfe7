/** Ledgers to begin with, each made by less than 100 calls: of the 512 that an object is good for, 400 are left. */
final class Ledgers {
    /** Makes a ledger, the same each time. */
    interface Start {
        DreamLedger make();
    }

    /** Does something with a ledger. */
    interface Use {
        void on(DreamLedger x);
    }

    static final Start EMPTY = DreamLedger::new;
    static final Start ONE = Ledgers::withOne;
    static final Start SMALL = Ledgers::withDreams;
    static final Start FULL = Ledgers::full;

    private Ledgers() {
    }

    /** Tags alone, none under another one. */
    static DreamLedger withTags(int count) {
        DreamLedger x = new DreamLedger();
        for (int tag = 0; tag < count; tag++) {
            x.addTag();
        }
        return x;
    }

    /** One tag, one dream with it, and its term. */
    static DreamLedger withOne() {
        DreamLedger x = withTags(1);
        x.addDream(0, 5);
        x.addTagTerm(0);
        return x;
    }

    /** Tags 0 to 5: 1 and 2 under 0, 3 under 1, 5 under 4. */
    static DreamLedger withTree() {
        DreamLedger x = withTags(6);
        x.putUnder(1, 0);
        x.putUnder(2, 0);
        x.putUnder(3, 1);
        x.putUnder(5, 4);
        return x;
    }

    /** On the tree: dream 0 with own tags 3 and 5, 1 with 2, 2 with 4, 3 with 0; terms 0 to 5 are the tags. */
    static DreamLedger withDreams() {
        DreamLedger x = withTree();
        x.addDream(3, 6);
        x.tagDream(0, 5);
        x.addDream(2, 8);
        x.addDream(4, 8);
        x.addDream(0, 3);
        for (int tag = 0; tag < 6; tag++) {
            x.addTagTerm(tag);
        }
        return x;
    }

    /** All 16 tags in one line: 0 under 1, 1 under 2, .. 14 under 15. */
    static DreamLedger longLine() {
        DreamLedger x = withTags(16);
        for (int tag = 0; tag < 15; tag++) {
            x.putUnder(tag, tag + 1);
        }
        return x;
    }

    /** Tags alone, and dreams with the own tags told, all of vividness 5; term 0 matches all of them. */
    static DreamLedger withOwnTags(int tags, int[][] ownTags) {
        DreamLedger x = withTags(tags);
        for (int[] own : ownTags) {
            int dream = x.addDream(own[0], 5);
            for (int each = 1; each < own.length; each++) {
                x.tagDream(dream, own[each]);
            }
        }
        x.addTagTerm(0);
        x.addWithoutTerm(0);
        x.addEitherTerm(0, 1);
        return x;
    }

    /** The term of withOwnTags that matches all dreams. */
    static final int ALL = 2;

    /** 16 tags (some of them in trees), 24 dreams of several nights, and 20 terms of each kind. */
    static DreamLedger full() {
        DreamLedger x = withTags(16);
        for (int tag = 1; tag < 12; tag++) {
            x.putUnder(tag, (tag - 1) / 2);
        }
        x.putUnder(13, 12);
        x.putUnder(14, 13);
        for (int dream = 0; dream < 24; dream++) {
            x.addDream(dream * 5 % 16, 1 + dream % 9);
            if (dream % 4 == 0) {
                x.tagDream(dream, (dream * 5 + 3) % 16);
            }
            if (dream == 11) {
                x.passNights(2);
            }
        }
        x.passNights(1);
        addTwentyTerms(x);
        return x;
    }

    private static void addTwentyTerms(DreamLedger x) {
        int[] tags = {0, 1, 2, 3, 6, 12, 13, 15};
        for (int tag : tags) {
            x.addTagTerm(tag);
        }
        x.addBothTerm(0, 5);
        x.addEitherTerm(3, 4);
        x.addWithoutTerm(0);
        x.addEitherTerm(0, 10);
        x.addWithoutTerm(11);
        x.addBothTerm(10, 5);
        x.addEitherTerm(8, 6);
        x.addWithoutTerm(14);
        x.addBothTerm(15, 15);
        x.addEitherTerm(7, 9);
        x.addWithoutTerm(1);
        x.addBothTerm(18, 11);
    }
}
