/**
 * What a ledger answers to all that can be asked, in parts of at most 400 calls each, so that each part
 * can be asked of a new object; the last part changes the ledger, and tells what it does then.
 */
final class Answers {
    static final int PARTS = 12;

    private final DreamLedger x;
    private final StringBuilder told = new StringBuilder();

    private Answers(DreamLedger x) {
        this.x = x;
    }

    static String of(DreamLedger x, int part) {
        Answers answers = new Answers(x);
        answers.tell(part);
        return answers.told.toString();
    }

    private void tell(int part) {
        switch (part) {
            case 0: counts(); break;
            case 1: dreamsAndTerms(); break;
            case 2: pairs("isBelow", x.tags(), x.tags()); break;
            case 3: pairs("nearestAbove", x.tags(), x.tags()); break;
            case 4: pairs("hasOwnTag", x.dreams(), x.tags()); break;
            case 5: pairs("hasTag", x.dreams(), x.tags()); break;
            case 6: matches(0, x.terms() / 2); break;
            case 7: matches(x.terms() / 2, x.terms()); break;
            case 8: pairs("matchSame", x.terms(), x.terms()); break;
            case 9: pairs("bestParent", x.terms(), x.tags()); break;
            case 10: covers(); break;
            default: changes(); break;
        }
    }

    private void add(String what, Checks.Question question) {
        told.append(what).append(' ').append(Checks.answerOf(question)).append('\n');
    }

    private void counts() {
        add("tags", x::tags);
        add("dreams", x::dreams);
        add("terms", x::terms);
        add("nights", x::nights);
        add("fadedDreams", x::fadedDreams);
        add("meanVividness", x::meanVividness);
        add("digest", x::digest);
        for (int nights = 1; nights <= 30; nights++) {
            int each = nights;
            add("fadedAfter " + each, () -> x.fadedAfter(each));
        }
        int tags = x.tags();
        for (int tag = 0; tag < tags; tag++) {
            int each = tag;
            add("hasParent " + each, () -> x.hasParent(each));
            add("parentOf " + each, () -> x.parentOf(each));
            add("tagsAbove " + each, () -> x.tagsAbove(each));
            add("tagsBelow " + each, () -> x.tagsBelow(each));
            add("dreamsWith " + each, () -> x.dreamsWith(each));
        }
    }

    private void dreamsAndTerms() {
        int dreams = x.dreams();
        for (int dream = 0; dream < dreams; dream++) {
            int each = dream;
            add("tagsOf " + each, () -> x.tagsOf(each));
            add("vividnessOf " + each, () -> x.vividnessOf(each));
            add("nightOf " + each, () -> x.nightOf(each));
        }
        int terms = x.terms();
        for (int term = 0; term < terms; term++) {
            int each = term;
            add("matchesOf " + each, () -> x.matchesOf(each));
            add("mostVivid " + each, () -> x.mostVivid(each));
            add("commonTags " + each, () -> x.commonTags(each));
        }
    }

    private void pairs(String call, int firsts, int seconds) {
        for (int first = 0; first < firsts; first++) {
            for (int second = 0; second < seconds; second++) {
                int a = first;
                int b = second;
                add(call + " " + a + " " + b, () -> pair(call, a, b));
            }
        }
    }

    private Object pair(String call, int a, int b) {
        switch (call) {
            case "isBelow": return x.isBelow(a, b);
            case "nearestAbove": return x.nearestAbove(a, b);
            case "hasOwnTag": return x.hasOwnTag(a, b);
            case "hasTag": return x.hasTag(a, b);
            case "matchSame": return x.matchSame(a, b);
            default: return x.bestParent(a, b);
        }
    }

    private void matches(int from, int to) {
        int dreams = x.dreams();
        for (int term = from; term < to; term++) {
            for (int dream = 0; dream < dreams; dream++) {
                int each = term;
                int other = dream;
                add("matches " + each + " " + other, () -> x.matches(each, other));
            }
        }
    }

    private void covers() {
        int terms = x.terms();
        for (int term = 0; term < terms; term++) {
            int each = term;
            add("coverSize " + each, () -> x.coverSize(each));
            for (int place = 0; place < 8; place++) {
                int at = place;
                add("coverTag " + each + " " + at, () -> x.coverTag(each, at));
            }
            add("matchesIfUnder " + each, () -> x.matchesIfUnder(each, each % 5, 12 + each % 3));
            add("matchesIfUnder " + each, () -> x.matchesIfUnder(each, each % 3, 3 + each % 4));
        }
    }

    private void changes() {
        for (int each = 0; each < 3; each++) {
            int k = each;
            add("addTag", x::addTag);
            add("addDream", () -> x.addDream(k, 3 + k));
            add("addTagTerm", () -> x.addTagTerm(k));
            add("addBothTerm", () -> x.addBothTerm(k, 0));
            add("addEitherTerm", () -> x.addEitherTerm(k, 1));
            add("addWithoutTerm", () -> x.addWithoutTerm(k));
            add("tagDream", () -> x.tagDream(k, k + 1));
            add("digest", x::digest);
            add("untagDream", () -> x.untagDream(k, k));
            add("recall", () -> x.recall(k, 9 - k));
            add("putUnder", () -> x.putUnder(k, k + 3));
            add("freeTag", () -> x.freeTag(k + 1));
            add("passNights", () -> x.passNights(k + 1));
            add("digest", x::digest);
        }
        add("clearTerms", x::clearTerms);
        add("addTagTerm", () -> x.addTagTerm(1));
        add("addDream", () -> x.addDream(1, 5));
        add("fadedAfter", () -> x.fadedAfter(5));
        add("digest", x::digest);
    }
}
