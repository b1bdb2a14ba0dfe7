/**
 * A ledger of dreams. Tags stand under other tags, dreams have tags of their own and fade from
 * night to night, and terms tell which dreams one looks for.
 *
 * <p>A set is held in the bits of an int: tag t in a set of tags is the bit 1 << t, dream d in a set
 * of dreams is the bit 1 << d. What follows from parents, own tags and terms (which tags a dream has,
 * which dreams a term matches) is drawn anew after each change, into rows that are made once: so a
 * question only reads, and no call makes an array.
 */
public final class DreamLedger {
    private static final int MOST_TAGS = 16;
    private static final int MOST_DREAMS = 24;
    private static final int MOST_TERMS = 20;
    private static final int MOST_VIVID = 9;
    private static final int MOST_NIGHTS = 30;
    private static final int NONE = -1;

    private static final int TAG_TERM = 0;
    private static final int BOTH_TERM = 1;
    private static final int EITHER_TERM = 2;
    private static final int WITHOUT_TERM = 3;

    private static final long DIGEST_START = 1867;
    private static final long DIGEST_FACTOR = 31;

    private final TagTree tagTree = new TagTree();
    private final TermList termList = new TermList();
    private final CoverSearch coverSearch = new CoverSearch();

    private final int[] ownTags = new int[MOST_DREAMS];
    private final int[] tagSets = new int[MOST_DREAMS];
    private final int[] vividnesses = new int[MOST_DREAMS];
    private final int[] writtenIn = new int[MOST_DREAMS];
    private int dreamCount;
    private int nightCount;

    public DreamLedger() {
    }

    // ---- tags

    public int addTag() throws IllegalStateException {
        if (tagTree.count >= MOST_TAGS) {
            throw new IllegalStateException("there are 16 tags");
        }
        return tagTree.grow();
    }

    public int putUnder(int tag, int parent)
            throws IndexOutOfBoundsException, IllegalArgumentException, IllegalStateException {
        requirePlaceUnder(tag, parent);
        moveTag(tag, parent);
        return tagTree.countAbove(tag);
    }

    public int freeTag(int tag) throws IndexOutOfBoundsException, IllegalStateException {
        requireParent(tag);
        int before = tagTree.parents[tag];
        moveTag(tag, NONE);
        return before;
    }

    // ---- dreams

    public int addDream(int tag, int vividness)
            throws IndexOutOfBoundsException, IllegalArgumentException, IllegalStateException {
        requireTag(tag);
        if (vividness < 1 || vividness > MOST_VIVID) {
            throw new IllegalArgumentException("the vividness is not 1 to 9");
        }
        if (dreamCount >= MOST_DREAMS) {
            throw new IllegalStateException("there are 24 dreams");
        }
        int dream = dreamCount;
        dreamCount++;
        vividnesses[dream] = vividness;
        writtenIn[dream] = nightCount;
        setOwnTags(dream, 1 << tag);
        return dream;
    }

    public int tagDream(int dream, int tag) throws IndexOutOfBoundsException, IllegalStateException {
        requireDream(dream);
        requireTag(tag);
        if (isIn(tag, ownTags[dream])) {
            throw new IllegalStateException("the tag is one of the dream's own");
        }
        setOwnTags(dream, ownTags[dream] | 1 << tag);
        return Integer.bitCount(ownTags[dream]);
    }

    public int untagDream(int dream, int tag) throws IndexOutOfBoundsException, IllegalStateException {
        requireDream(dream);
        requireTag(tag);
        if (!isIn(tag, ownTags[dream])) {
            throw new IllegalStateException("the tag is none of the dream's own");
        }
        if (ownTags[dream] == 1 << tag) {
            throw new IllegalStateException("the tag is the only one of the dream's own");
        }
        setOwnTags(dream, ownTags[dream] & ~(1 << tag));
        return Integer.bitCount(ownTags[dream]);
    }

    public int recall(int dream, int vividness)
            throws IndexOutOfBoundsException, IllegalArgumentException {
        requireDream(dream);
        if (vividness < 0 || vividness > MOST_VIVID) {
            throw new IllegalArgumentException("the vividness is not 0 to 9");
        }
        int before = vividnesses[dream];
        vividnesses[dream] = vividness;
        return before;
    }

    public int passNights(int nights) throws IllegalArgumentException {
        requireNights(nights);
        for (int dream = 0; dream < dreamCount; dream++) {
            vividnesses[dream] = vividnessAfter(dream, nights);
        }
        nightCount += nights;
        return countFadedAfter(0);
    }

    // ---- terms

    public int addTagTerm(int tag) throws IndexOutOfBoundsException, IllegalStateException {
        requireTag(tag);
        requireRoomForTerm();
        return addTerm(TAG_TERM, tag, tag);
    }

    public int addBothTerm(int a, int b) throws IndexOutOfBoundsException, IllegalStateException {
        requireTerm(a);
        requireTerm(b);
        requireRoomForTerm();
        return addTerm(BOTH_TERM, a, b);
    }

    public int addEitherTerm(int a, int b) throws IndexOutOfBoundsException, IllegalStateException {
        requireTerm(a);
        requireTerm(b);
        requireRoomForTerm();
        return addTerm(EITHER_TERM, a, b);
    }

    public int addWithoutTerm(int term) throws IndexOutOfBoundsException, IllegalStateException {
        requireTerm(term);
        requireRoomForTerm();
        return addTerm(WITHOUT_TERM, term, term);
    }

    public int clearTerms() {
        int before = termList.count;
        termList.count = 0;
        return before;
    }

    // ---- what tags are

    public boolean hasParent(int tag) throws IndexOutOfBoundsException {
        requireTag(tag);
        return tagTree.parents[tag] != NONE;
    }

    public int parentOf(int tag) throws IndexOutOfBoundsException, IllegalStateException {
        requireParent(tag);
        return tagTree.parents[tag];
    }

    public int tagsAbove(int tag) throws IndexOutOfBoundsException {
        requireTag(tag);
        return tagTree.countAbove(tag);
    }

    public int tagsBelow(int tag) throws IndexOutOfBoundsException {
        requireTag(tag);
        return tagTree.countBelow(tag);
    }

    public boolean isBelow(int tag, int other) throws IndexOutOfBoundsException {
        requireTag(tag);
        requireTag(other);
        return tagTree.standsBelow(tag, other);
    }

    public int nearestAbove(int a, int b) throws IndexOutOfBoundsException {
        requireTag(a);
        requireTag(b);
        return tagTree.lowestOf(tagTree.lines[a] & tagTree.lines[b]);
    }

    public int dreamsWith(int tag) throws IndexOutOfBoundsException {
        requireTag(tag);
        return Integer.bitCount(dreamsHaving(tag));
    }

    // ---- what dreams are

    public boolean hasOwnTag(int dream, int tag) throws IndexOutOfBoundsException {
        requireDream(dream);
        requireTag(tag);
        return isIn(tag, ownTags[dream]);
    }

    public boolean hasTag(int dream, int tag) throws IndexOutOfBoundsException {
        requireDream(dream);
        requireTag(tag);
        return isIn(tag, tagSets[dream]);
    }

    public int tagsOf(int dream) throws IndexOutOfBoundsException {
        requireDream(dream);
        return Integer.bitCount(tagSets[dream]);
    }

    public int vividnessOf(int dream) throws IndexOutOfBoundsException {
        requireDream(dream);
        return vividnesses[dream];
    }

    public int nightOf(int dream) throws IndexOutOfBoundsException {
        requireDream(dream);
        return writtenIn[dream];
    }

    // ---- what terms match

    public boolean matches(int term, int dream) throws IndexOutOfBoundsException {
        requireTerm(term);
        requireDream(dream);
        return isIn(dream, termList.matched[term]);
    }

    public int matchesOf(int term) throws IndexOutOfBoundsException {
        requireTerm(term);
        return Integer.bitCount(termList.matched[term]);
    }

    public int mostVivid(int term) throws IndexOutOfBoundsException {
        requireTerm(term);
        return mostVividOf(termList.matched[term]);
    }

    public int commonTags(int term) throws IndexOutOfBoundsException {
        requireTerm(term);
        return Integer.bitCount(tagsSharedBy(termList.matched[term]));
    }

    public boolean matchSame(int a, int b) throws IndexOutOfBoundsException {
        requireTerm(a);
        requireTerm(b);
        return termList.matched[a] == termList.matched[b];
    }

    public int coverSize(int term) throws IndexOutOfBoundsException {
        requireTerm(term);
        return Integer.bitCount(smallestCover(term));
    }

    public int coverTag(int term, int place) throws IndexOutOfBoundsException {
        requireTerm(term);
        int tag = memberAt(smallestCover(term), place);
        if (tag == NONE) {
            throw new IndexOutOfBoundsException("the cover has no such place");
        }
        return tag;
    }

    // ---- the ledger

    public int tags() {
        return tagTree.count;
    }

    public int dreams() {
        return dreamCount;
    }

    public int terms() {
        return termList.count;
    }

    public int nights() {
        return nightCount;
    }

    public int fadedDreams() {
        return countFadedAfter(0);
    }

    // ---- what would be

    public int fadedAfter(int nights) throws IllegalArgumentException {
        requireNights(nights);
        return countFadedAfter(nights);
    }

    public int matchesIfUnder(int term, int tag, int parent)
            throws IndexOutOfBoundsException, IllegalArgumentException, IllegalStateException {
        requireTerm(term);
        requirePlaceUnder(tag, parent);
        return countMatchedIfUnder(term, tag, parent);
    }

    public int bestParent(int term, int tag) throws IndexOutOfBoundsException {
        requireTerm(term);
        requireTag(tag);
        int best = NONE;
        int most = Integer.bitCount(termList.matched[term]);
        for (int parent = 0; parent < tagTree.count; parent++) {
            if (tagTree.canHang(tag, parent)) {
                int count = countMatchedIfUnder(term, tag, parent);
                if (count > most) {
                    most = count;
                    best = parent;
                }
            }
        }
        return best;
    }

    public double meanVividness() {
        if (dreamCount == 0) {
            return 0;
        }
        int sum = 0;
        for (int dream = 0; dream < dreamCount; dream++) {
            sum += vividnesses[dream];
        }
        return (double) sum / dreamCount;
    }

    public long digest() {
        long d = DIGEST_START;
        d = digested(d, tagTree.count);
        d = digested(d, dreamCount);
        d = digested(d, termList.count);
        d = digested(d, nightCount);
        d = digested(d, countFadedAfter(0));
        for (int tag = 0; tag < tagTree.count; tag++) {
            d = digestedTag(d, tag);
        }
        for (int dream = 0; dream < dreamCount; dream++) {
            d = digestedDream(d, dream);
        }
        for (int term = 0; term < termList.count; term++) {
            d = digestedTerm(d, term);
        }
        return d;
    }

    // ---- what a call asks of its arguments

    private void requireTag(int tag) {
        if (tag < 0 || tag >= tagTree.count) {
            throw new IndexOutOfBoundsException("there is no such tag");
        }
    }

    private void requireDream(int dream) {
        if (dream < 0 || dream >= dreamCount) {
            throw new IndexOutOfBoundsException("there is no such dream");
        }
    }

    private void requireTerm(int term) {
        if (term < 0 || term >= termList.count) {
            throw new IndexOutOfBoundsException("there is no such term");
        }
    }

    private void requireParent(int tag) {
        requireTag(tag);
        if (tagTree.parents[tag] == NONE) {
            throw new IllegalStateException("the tag has no parent");
        }
    }

    private void requirePlaceUnder(int tag, int parent) {
        requireTag(tag);
        requireTag(parent);
        if (tag == parent) {
            throw new IllegalArgumentException("both tags are the same");
        }
        if (!tagTree.canHang(tag, parent)) {
            throw new IllegalStateException("the parent is below the tag");
        }
    }

    private void requireNights(int nights) {
        if (nights < 1 || nights > MOST_NIGHTS) {
            throw new IllegalArgumentException("the nights are not 1 to 30");
        }
    }

    private void requireRoomForTerm() {
        if (termList.count >= MOST_TERMS) {
            throw new IllegalStateException("there are 20 terms");
        }
    }

    // ---- changes

    private void moveTag(int tag, int parent) {
        tagTree.hang(tag, parent);
        for (int dream = 0; dream < dreamCount; dream++) {
            tagSets[dream] = tagTree.linesOf(ownTags[dream]);
        }
        rematchTerms();
    }

    private void setOwnTags(int dream, int tagSet) {
        ownTags[dream] = tagSet;
        tagSets[dream] = tagTree.linesOf(tagSet);
        rematchTerms();
    }

    private int addTerm(int kind, int first, int second) {
        int term = termList.add(kind, first, second);
        rematchTerms();
        return term;
    }

    /** Goes up from the first term, as a term is made of terms ahead of it. */
    private void rematchTerms() {
        for (int term = 0; term < termList.count; term++) {
            if (termList.kinds[term] == TAG_TERM) {
                termList.matched[term] = dreamsHaving(termList.firsts[term]);
            } else {
                termList.combine(term, allDreams());
            }
        }
    }

    // ---- answers

    private int allDreams() {
        return (1 << dreamCount) - 1;
    }

    private int dreamsHaving(int tag) {
        int having = 0;
        for (int dream = 0; dream < dreamCount; dream++) {
            if (isIn(tag, tagSets[dream])) {
                having |= 1 << dream;
            }
        }
        return having;
    }

    /**
     * Which dreams are like the latest one does not change as nights go by, so that all nights are
     * taken at once; the latest one itself stays, as it is like itself.
     */
    private int vividnessAfter(int dream, int nights) {
        boolean stays = (ownTags[dream] & ownTagsOfLatest()) != 0;
        return stays ? vividnesses[dream] : Math.max(0, vividnesses[dream] - nights);
    }

    private int ownTagsOfLatest() {
        return dreamCount == 0 ? 0 : ownTags[dreamCount - 1];
    }

    private int countFadedAfter(int nights) {
        int faded = 0;
        for (int dream = 0; dream < dreamCount; dream++) {
            if (vividnessAfter(dream, nights) == 0) {
                faded++;
            }
        }
        return faded;
    }

    private int mostVividOf(int dreamSet) {
        int best = NONE;
        int most = NONE;
        for (int dream = 0; dream < dreamCount; dream++) {
            if (isIn(dream, dreamSet) && vividnesses[dream] > most) {
                most = vividnesses[dream];
                best = dream;
            }
        }
        return best;
    }

    private int tagsSharedBy(int dreamSet) {
        int shared = dreamSet == 0 ? 0 : (1 << MOST_TAGS) - 1;
        for (int dream = 0; dream < dreamCount; dream++) {
            if (isIn(dream, dreamSet)) {
                shared &= tagSets[dream];
            }
        }
        return shared;
    }

    private int smallestCover(int term) {
        int dreamSet = termList.matched[term];
        for (int tag = 0; tag < MOST_TAGS; tag++) {
            coverSearch.dreamsWithTag[tag] = dreamsHaving(tag) & dreamSet;
        }
        return coverSearch.smallestOf(dreamSet);
    }

    /** Puts the tag there, looks, and puts it back: what terms match is drawn in one place alone. */
    private int countMatchedIfUnder(int term, int tag, int parent) {
        int before = tagTree.parents[tag];
        moveTag(tag, parent);
        int count = Integer.bitCount(termList.matched[term]);
        moveTag(tag, before);
        return count;
    }

    // ---- the checksum

    private long digestedTag(long start, int tag) {
        long d = digested(start, tagTree.parents[tag]);
        d = digested(d, tagTree.countAbove(tag));
        d = digested(d, tagTree.countBelow(tag));
        return digested(d, Integer.bitCount(dreamsHaving(tag)));
    }

    private long digestedDream(long start, int dream) {
        long d = digested(start, Integer.bitCount(tagSets[dream]));
        d = digested(d, vividnesses[dream]);
        d = digested(d, writtenIn[dream]);
        return digestedSet(d, ownTags[dream], tagTree.count);
    }

    private long digestedTerm(long start, int term) {
        int dreamSet = termList.matched[term];
        int cover = smallestCover(term);
        long d = digested(start, Integer.bitCount(dreamSet));
        d = digested(d, mostVividOf(dreamSet));
        d = digested(d, Integer.bitCount(tagsSharedBy(dreamSet)));
        d = digested(d, Integer.bitCount(cover));
        for (int tag = 0; tag < MOST_TAGS; tag++) {
            if (isIn(tag, cover)) {
                d = digested(d, tag);
            }
        }
        return digestedSet(d, dreamSet, dreamCount);
    }

    private static long digestedSet(long start, int set, int count) {
        long d = start;
        for (int member = 0; member < count; member++) {
            d = digested(d, isIn(member, set) ? 1 : 0);
        }
        return d;
    }

    private static long digested(long d, long x) {
        return d * DIGEST_FACTOR + x;
    }

    // ---- sets

    private static boolean isIn(int member, int set) {
        return (set >> member & 1) != 0;
    }

    /** The member at a place, from the smallest on; NONE where the set has no such place. */
    private static int memberAt(int set, int place) {
        int before = 0;
        for (int member = 0; member < MOST_TAGS; member++) {
            if (isIn(member, set)) {
                if (before == place) {
                    return member;
                }
                before++;
            }
        }
        return NONE;
    }

    /** The tags and their parents, with the line of each tag: the set of itself and those above it. */
    private static final class TagTree {
        private final int[] parents = new int[MOST_TAGS];
        private final int[] lines = new int[MOST_TAGS];
        private int count;

        private int grow() {
            int tag = count;
            count++;
            hang(tag, NONE);
            return tag;
        }

        private void hang(int tag, int parent) {
            parents[tag] = parent;
            for (int each = 0; each < count; each++) {
                lines[each] = lineFrom(each);
            }
        }

        private int lineFrom(int tag) {
            int line = 0;
            int at = tag;
            for (int step = 0; step < MOST_TAGS && at >= 0 && at < count; step++) {
                line |= 1 << at;
                at = parents[at];
            }
            return line;
        }

        private int linesOf(int tagSet) {
            int set = 0;
            for (int tag = 0; tag < count; tag++) {
                if (isIn(tag, tagSet)) {
                    set |= lines[tag];
                }
            }
            return set;
        }

        private boolean standsBelow(int tag, int other) {
            return tag != other && isIn(other, lines[tag]);
        }

        private boolean canHang(int tag, int parent) {
            return tag != parent && !standsBelow(parent, tag);
        }

        private int countAbove(int tag) {
            return Integer.bitCount(lines[tag]) - 1;
        }

        private int countBelow(int tag) {
            int below = 0;
            for (int other = 0; other < count; other++) {
                if (standsBelow(other, tag)) {
                    below++;
                }
            }
            return below;
        }

        /** The tag with the most tags above it, of a set; NONE without one. */
        private int lowestOf(int tagSet) {
            int lowest = NONE;
            int most = NONE;
            for (int tag = 0; tag < count; tag++) {
                if (isIn(tag, tagSet) && countAbove(tag) > most) {
                    most = countAbove(tag);
                    lowest = tag;
                }
            }
            return lowest;
        }
    }

    /** The terms: their kinds, of which tag or terms they are made, and the dreams they match now. */
    private static final class TermList {
        private final int[] kinds = new int[MOST_TERMS];
        private final int[] firsts = new int[MOST_TERMS];
        private final int[] seconds = new int[MOST_TERMS];
        private final int[] matched = new int[MOST_TERMS];
        private int count;

        private int add(int kind, int first, int second) {
            int term = count;
            count++;
            kinds[term] = kind;
            firsts[term] = first;
            seconds[term] = second;
            return term;
        }

        private void combine(int term, int everyDream) {
            int first = matchedAhead(firsts[term], term);
            int second = matchedAhead(seconds[term], term);
            if (kinds[term] == BOTH_TERM) {
                matched[term] = first & second;
            } else if (kinds[term] == EITHER_TERM) {
                matched[term] = first | second;
            } else {
                matched[term] = everyDream & ~first;
            }
        }

        private int matchedAhead(int part, int term) {
            return part >= 0 && part < term ? matched[part] : 0;
        }
    }

    /**
     * The search for a smallest cover: which of the dreams to cover have each tag, and which have one
     * of the tags from each on (none behind the last tag).
     */
    private static final class CoverSearch {
        private final int[] dreamsWithTag = new int[MOST_TAGS];
        private final int[] coverable = new int[MOST_TAGS + 1];

        /** Tries sizes from the smallest on, so that the first cover found is a smallest one. */
        private int smallestOf(int dreamSet) {
            for (int tag = MOST_TAGS - 1; tag >= 0; tag--) {
                coverable[tag] = coverable[tag + 1] | dreamsWithTag[tag];
            }
            for (int size = 0; size <= MOST_TAGS; size++) {
                int cover = coverFrom(dreamsWithTag, coverable, 0, size, dreamSet);
                if (cover != NONE) {
                    return cover;
                }
            }
            return 0;
        }

        /**
         * A cover of the open dreams by at most that many tags, from a tag on; NONE if there is none.
         * A tag is taken before it is passed over, so that of several covers of one size the one
         * with the smallest first tags is found. A tag of a smallest cover has a dream that no other
         * tag of the cover has, so that one without an open dream is passed over.
         */
        private static int coverFrom(int[] dreamsWithTag, int[] coverable, int tag, int size, int open) {
            if (open == 0) {
                return 0;
            }
            if (size <= 0 || tag < 0 || tag >= MOST_TAGS || (open & ~coverable[tag]) != 0) {
                return NONE;
            }
            if ((open & dreamsWithTag[tag]) != 0) {
                int left = open & ~dreamsWithTag[tag];
                int rest = coverFrom(dreamsWithTag, coverable, tag + 1, size - 1, left);
                if (rest != NONE) {
                    return rest | 1 << tag;
                }
            }
            return coverFrom(dreamsWithTag, coverable, tag + 1, size, open);
        }
    }
}
