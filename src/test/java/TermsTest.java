/** One test for each sentence of the document's "Terms" that names a boundary case; it is named by the sentence. */
public final class TermsTest {
    private static final int LOW = Integer.MIN_VALUE;
    private static final int HIGH = Integer.MAX_VALUE;
    private static final int[] BAD_CLAIMS = {-1, 16, 17, LOW, HIGH};

    private static String sentence = "";
    private static int sentences = 0;
    private static int wrong = 0;

    public static void main(String[] args) {
        holds("An object is used for at most 512 calls", TermsTest::calls512);
        holds("There are 16 CLAIMS, 0 .. 15", TermsTest::sixteenClaims);
        holds("Claim c has the LEVEL c / 4 (whole number, 0 .. 3)", TermsTest::levels);
        holds("Every claim has an OBSERVED certainty 0 .. 100", TermsTest::observedRange);
        holds("0 at first", TermsTest::observedAtFirst);
        holds("There is a list of at most 20 RULES", TermsTest::twentyRules);
        holds("A rule has a HEAD (a claim)", TermsTest::everyClaimIsAHead);
        holds("a strength 1 .. 100", TermsTest::strengthRange);
        holds("at most 3 PREMISES", TermsTest::threePremises);
        holds("a premise is a claim or the negation of a claim", TermsTest::claimOrNegation);
        holds("A premise that is a claim has a level of at most the head's level", TermsTest::levelOfAClaim);
        holds("a premise that is a negation has a level less than the head's", TermsTest::levelOfANegation);
        holds("THE CERTAINTIES are whole numbers 0 .. 100, one for every claim", TermsTest::certaintyRange);
        holds("given level by level from 0 up", TermsTest::levelByLevel);
        holds("certainty(c) is at least observed(c)", TermsTest::atLeastObserved);
        holds("for every rule with head c, certainty(c) is at least (m * strength) / 100", TermsTest::everyRule);
        holds("whole quotient", TermsTest::wholeQuotient);
        holds("m is the least of its premises' values", TermsTest::leastPremise);
        holds("100 if it has none", TermsTest::noPremise);
        holds("a premise that is a claim has its certainty as value", TermsTest::valueOfAClaim);
        holds("a premise that is a negation of a claim a has 100 - certainty(a)", TermsTest::valueOfANegation);
        holds("The certainties of lower levels are known by then", TermsTest::lowerLevelsAreKnown);
        holds("within a level claims may support each other in cycles", TermsTest::cycles);
        holds("start with all 0 and raise what must be raised until nothing must", TermsTest::leastChoice);
        holds("A rule SUPPORTS its head if (m * strength) / 100 for it equals the head's certainty",
                TermsTest::supportsIfEqual);
        holds("and that is greater than 0", TermsTest::supportsAboveZero);
        holds("There is a DRAFT of premises, empty at first", TermsTest::draftAtFirst);
        holds("No question changes anything", TermsTest::questionsChangeNothing);
        holds("A refused call changes nothing", TermsTest::refusedCallsChangeNothing);
        holds("In every method the tests are made in the order named", TermsTest::orderOfTests);
        holds("a claim is good if it is 0 .. 15", TermsTest::goodClaims);
        System.out.println(wrong == 0 ? "all " + sentences + " sentences hold" : wrong + " answers are wrong");
        if (wrong != 0) {
            System.exit(1);
        }
    }

    private static void holds(String words, Runnable test) {
        sentence = words;
        sentences++;
        try {
            test.run();
        } catch (RuntimeException e) {
            wrong++;
            System.out.println("[" + words + "] a call threw " + e);
        }
    }

    private static void due(String what, int got, int want) {
        if (got != want) {
            wrong++;
            System.out.println("[" + sentence + "] " + what + " answered " + got + ", due is " + want);
        }
    }

    private static CertaintyChainer fresh() {
        return new CertaintyChainer();
    }

    /** A premise is given as its claim, or as ~claim for the negation. */
    private static int addRule(CertaintyChainer x, int head, int strength, int... premises) {
        for (int p : premises) {
            int put = p < 0 ? x.premise(~p, 1) : x.premise(p, 0);
            if (put < 1) {
                due("premise in addRule", put, 1);
            }
        }
        return x.rule(head, strength);
    }

    private static void calls512() {
        CertaintyChainer x = fresh();
        for (int i = 0; i < 127; i++) {
            due("premise, round " + i, x.premise(i % 4, i % 2), 1);
            due("rule, round " + i, x.rule(4 + i % 4, 1 + i % 100), 0);
            due("observe, round " + i, x.observe(i % 16, i % 101), i < 16 ? 0 : (i - 16) % 101);
            due("remove, round " + i, x.remove(0), 0);
        }
        due("the 509th call", x.premise(15, 0), 1);
        due("the 510th call", x.observe(15, 100), 10);
        due("the 511th call", x.rule(15, 99), 0);
        due("the 512th call", x.yield(0), 99);

        CertaintyChainer y = fresh();
        for (int i = 0; i < 512; i++) {
            due("call " + i + " of the same kind", y.premise(0, 0), i < 3 ? i + 1 : -2);
        }
        CertaintyChainer z = fresh();
        for (int i = 0; i < 512; i++) {
            due("call " + i + " of the same kind", z.rule(0, 1), i < 20 ? i : -4);
        }
    }

    private static void sixteenClaims() {
        CertaintyChainer x = fresh();
        for (int c = 0; c < 16; c++) {
            due("observe(" + c + ")", x.observe(c, 20 + c), 0);
        }
        for (int c = 0; c < 16; c++) {
            due("observed(" + c + ")", x.observed(c), 20 + c);
            due("certainty(" + c + ")", x.certainty(c), 20 + c);
        }
        due("how many there are", x.atLeast(LOW), 16);
        due("how many are above 0", x.atLeast(20), 16);
        due("claim 16", x.observed(16), -1);
        due("claim -1", x.observed(-1), -1);
    }

    private static void levels() {
        // A claim fits the first of its own level and not the last of the level below.
        for (int level = 0; level < 4; level++) {
            int first = 4 * level;
            int last = first + 3;
            due("claim " + last + " for " + first, addRule(fresh(), first, 50, last), 0);
            due("claim " + first + " for " + last, addRule(fresh(), last, 50, first), 0);
            if (level > 0) {
                due("claim " + first + " for " + (first - 1), addRule(fresh(), first - 1, 50, first), -3);
                due("negation of " + (first - 1) + " for " + first, addRule(fresh(), first, 50, ~(first - 1)), 0);
            }
            due("negation of " + first + " for " + last, addRule(fresh(), last, 50, ~first), -3);
        }
    }

    private static void observedRange() {
        for (int c = 0; c < 16; c++) {
            CertaintyChainer x = fresh();
            due("observe(" + c + ", -1)", x.observe(c, -1), -2);
            due("observe(" + c + ", 101)", x.observe(c, 101), -2);
            for (int v = 0; v <= 100; v++) {
                due("observe(" + c + ", " + v + ")", x.observe(c, v), v == 0 ? 0 : v - 1);
            }
            due("observed(" + c + ")", x.observed(c), 100);
        }
    }

    private static void observedAtFirst() {
        CertaintyChainer x = fresh();
        for (int c = 0; c < 16; c++) {
            due("observed(" + c + ")", x.observed(c), 0);
        }
        for (int c = 0; c < 16; c++) {
            due("observe(" + c + ", 1)", x.observe(c, 1), 0);
        }
    }

    private static void twentyRules() {
        CertaintyChainer x = fresh();
        for (int r = 0; r < 20; r++) {
            due("rule " + r, addRule(x, 15, 80 + r, 12, 13, 14), r);
        }
        due("the 21st rule", x.rule(15, 50), -4);
        due("rules()", x.rules(), 20);
        for (int r = 0; r < 20; r++) {
            due("strengthen(" + r + ")", x.strengthen(r, 1), 80 + r);
        }
        due("rule number 20", x.headOf(20), -1);
        due("after a removal", x.remove(19), 19);
        due("after a removal", x.rule(0, 7), 19);
        due("full again", x.rule(0, 7), -4);
    }

    private static void everyClaimIsAHead() {
        CertaintyChainer x = fresh();
        for (int c = 0; c < 16; c++) {
            due("rule(" + c + ")", x.rule(c, 30 + c), c);
        }
        for (int c = 0; c < 16; c++) {
            due("headOf(" + c + ")", x.headOf(c), c);
            due("certainty(" + c + ")", x.certainty(c), 30 + c);
        }
    }

    private static void strengthRange() {
        CertaintyChainer x = fresh();
        due("rule(0, 0)", x.rule(0, 0), -2);
        due("rule(0, 101)", x.rule(0, 101), -2);
        due("rule(0, 1)", x.rule(0, 1), 0);
        due("rule(1, 100)", x.rule(1, 100), 1);
        due("strength 1", x.certainty(0), 1);
        due("strength 100", x.certainty(1), 100);
        for (int s = 1; s <= 100; s++) {
            due("strengthen(0, " + s + ")", x.strengthen(0, s), s == 1 ? 1 : s - 1);
            due("strength " + s, x.certainty(0), s);
        }
        due("strengthen(0, 0)", x.strengthen(0, 0), -2);
        due("strengthen(0, 101)", x.strengthen(0, 101), -2);
        due("the strength after refusals", x.strengthen(0, 50), 100);
    }

    private static void threePremises() {
        for (int n = 0; n <= 3; n++) {
            CertaintyChainer x = fresh();
            for (int i = 0; i < n; i++) {
                due("premise " + i + " of " + n, x.premise(i, 0), i + 1);
            }
            due("a rule with " + n, x.rule(3, 100), 0);
            for (int missing = 0; missing < 3; missing++) {
                for (int c = 0; c < 3; c++) {
                    x.observe(c, c == missing ? 40 : 90);
                }
                due(n + " premises, the least is " + missing, x.yield(0), n == 0 ? 100 : missing < n ? 40 : 90);
            }
        }
        CertaintyChainer y = fresh();
        y.premise(0, 0);
        y.premise(1, 0);
        y.premise(2, 0);
        due("a fourth premise", y.premise(3, 0), -2);
        y.rule(3, 100);
        y.observe(0, 90);
        y.observe(1, 80);
        y.observe(2, 70);
        due("the fourth is no premise of the rule", y.yield(0), 70);
    }

    private static void claimOrNegation() {
        CertaintyChainer x = fresh();
        x.observe(0, 20);
        addRule(x, 4, 100, 0);
        addRule(x, 5, 100, ~0);
        addRule(x, 6, 100, 0, ~0);
        due("the claim", x.certainty(4), 20);
        due("the negation", x.certainty(5), 80);
        due("both in one rule", x.certainty(6), 20);
        x.observe(0, 70);
        due("both in one rule", x.certainty(6), 30);
    }

    private static void levelOfAClaim() {
        for (int head = 0; head < 16; head++) {
            for (int claim = 0; claim < 16; claim++) {
                String which = "claim " + claim + " for head " + head;
                int want = claim / 4 <= head / 4 ? 0 : -3;
                due(which, addRule(fresh(), head, 50, claim), want);
                due(which + ", second", addRule(fresh(), head, 50, 0, claim), want);
                due(which + ", third", addRule(fresh(), head, 50, 0, 0, claim), want);
                due(which + ", first of three", addRule(fresh(), head, 50, claim, 0, 0), want);
            }
        }
    }

    private static void levelOfANegation() {
        for (int head = 0; head < 16; head++) {
            for (int claim = 0; claim < 16; claim++) {
                String which = "negation of " + claim + " for head " + head;
                int want = claim / 4 < head / 4 ? 0 : -3;
                due(which, addRule(fresh(), head, 50, ~claim), want);
                due(which + ", second", addRule(fresh(), head, 50, 0, ~claim), want);
                due(which + ", third", addRule(fresh(), head, 50, 0, 0, ~claim), want);
                due(which + ", first of three", addRule(fresh(), head, 50, ~claim, 0, 0), want);
            }
        }
    }

    private static void certaintyRange() {
        CertaintyChainer x = fresh();
        for (int c = 0; c < 16; c++) {
            due("with nothing, claim " + c, x.certainty(c), 0);
        }
        for (int c = 0; c < 16; c++) {
            x.observe(c, 100);
            addRule(x, c, 100, c);
        }
        for (int c = 0; c < 16; c++) {
            due("with everything, claim " + c, x.certainty(c), 100);
        }
        due("none is above 100", x.atLeast(101), 0);
        due("none is below 0", x.atLeast(0), 16);

        CertaintyChainer y = fresh();
        for (int c = 0; c < 8; c++) {
            y.observe(c, 100);
        }
        addRule(y, 8, 100, ~0, ~7);
        addRule(y, 8, 1, ~7);
        due("a negation of 100 is not below 0", y.certainty(8), 0);
        addRule(y, 12, 100, ~8, ~8, ~8);
        due("a negation of 0 is not above 100", y.certainty(12), 100);
        y.rule(13, 100);
        due("a rule without premises is not above 100", y.certainty(13), 100);
    }

    private static void levelByLevel() {
        // Each rule stands before the one that it needs, and each passes to the next level.
        CertaintyChainer x = fresh();
        addRule(x, 12, 100, 8);
        addRule(x, 8, 100, 4);
        addRule(x, 4, 100, 0);
        x.rule(0, 66);
        due("through all levels", x.certainty(12), 66);
        CertaintyChainer y = fresh();
        addRule(y, 15, 100, ~11);
        addRule(y, 11, 100, ~7);
        addRule(y, 7, 100, ~3);
        y.rule(3, 66);
        due("level 0", y.certainty(3), 66);
        due("level 1", y.certainty(7), 34);
        due("level 2", y.certainty(11), 66);
        due("level 3", y.certainty(15), 34);
        addRule(y, 14, 100, ~3);
        due("from level 0 to level 3", y.certainty(14), 34);
    }

    private static void atLeastObserved() {
        for (int c = 0; c < 16; c++) {
            CertaintyChainer x = fresh();
            x.rule(c, 50);
            x.observe(c, 49);
            due("observed one less than a rule gives, claim " + c, x.certainty(c), 50);
            x.observe(c, 50);
            due("observed as much, claim " + c, x.certainty(c), 50);
            x.observe(c, 51);
            due("observed one more, claim " + c, x.certainty(c), 51);
            x.observe(c, 100);
            due("observed 100, claim " + c, x.certainty(c), 100);
            x.remove(0);
            due("observed alone, claim " + c, x.certainty(c), 100);
        }
    }

    private static void everyRule() {
        for (int strong = 0; strong < 20; strong++) {
            CertaintyChainer x = fresh();
            for (int r = 0; r < 20; r++) {
                x.rule(7, r == strong ? 31 : 30);
            }
            due("rule " + strong + " of 20 gives the most", x.certainty(7), 31);
            due("another claim", x.certainty(6), 0);
        }
    }

    private static void wholeQuotient() {
        for (int strength = 1; strength <= 100; strength++) {
            CertaintyChainer x = fresh();
            addRule(x, 1, strength, 0);
            for (int m = 0; m <= 100; m++) {
                x.observe(0, m);
                due("m " + m + ", strength " + strength, x.certainty(1), (m * strength) / 100);
            }
        }
    }

    private static void leastPremise() {
        int[][] values = {{30, 50, 70}, {30, 70, 50}, {50, 30, 70}, {70, 30, 50}, {50, 70, 30}, {70, 50, 30},
                {30, 30, 70}, {70, 30, 30}, {30, 70, 30}, {30, 30, 30}};
        for (int[] v : values) {
            CertaintyChainer x = fresh();
            CertaintyChainer y = fresh();
            for (int c = 0; c < 3; c++) {
                x.observe(c, v[c]);
                y.observe(c, 100 - v[c]);
            }
            addRule(x, 4, 100, 0, 1, 2);
            addRule(y, 4, 100, ~0, ~1, ~2);
            due("claims", x.certainty(4), 30);
            due("negations", y.certainty(4), 30);
        }
        CertaintyChainer z = fresh();
        addRule(z, 4, 100, 0, ~1, 2);
        z.observe(0, 100);
        z.observe(2, 99);
        due("one less than 100", z.yield(0), 99);
        z.observe(1, 2);
        due("a negation is the least", z.yield(0), 98);
        z.observe(2, 0);
        due("0 is the least", z.yield(0), 0);
    }

    private static void noPremise() {
        CertaintyChainer x = fresh();
        for (int c = 0; c < 16; c++) {
            x.rule(c, 100);
            due("strength 100", x.yield(c), 100);
            x.strengthen(c, 1);
            due("strength 1", x.yield(c), 1);
        }
        CertaintyChainer y = fresh();
        addRule(y, 5, 100, 0, 1, 2);
        y.rule(6, 73);
        due("after a rule with premises", y.certainty(6), 73);
        y.remove(0);
        due("moved into the place of a rule with premises", y.certainty(6), 73);
        y.rule(7, 74);
        due("put into the place of a rule that moved", y.certainty(7), 74);
        CertaintyChainer z = fresh();
        addRule(z, 5, 100, 0, 1, 2);
        z.remove(0);
        z.rule(6, 75);
        due("put into the place of a rule with premises", z.certainty(6), 75);
    }

    private static void valueOfAClaim() {
        CertaintyChainer x = fresh();
        addRule(x, 1, 100, 0);
        for (int v = 0; v <= 100; v++) {
            x.observe(0, v);
            due("observed " + v, x.yield(0), v);
        }
        x.observe(0, 10);
        x.rule(0, 60);
        due("the certainty, not the observed one", x.yield(0), 60);
        addRule(x, 2, 50, 2);
        x.observe(2, 80);
        due("the head itself", x.yield(2), 40);
    }

    private static void valueOfANegation() {
        CertaintyChainer x = fresh();
        addRule(x, 4, 100, ~3);
        for (int v = 0; v <= 100; v++) {
            x.observe(3, v);
            due("observed " + v, x.yield(0), 100 - v);
        }
        x.observe(3, 10);
        x.rule(3, 60);
        due("the certainty, not the observed one", x.yield(0), 40);
        x.strengthen(1, 100);
        due("certainty 100", x.yield(0), 0);
    }

    private static void lowerLevelsAreKnown() {
        // The chain settles last at claim 3 in one order of the rules and last at claim 0 in the other.
        for (int level = 0; level < 3; level++) {
            int low = 4 * level;
            CertaintyChainer x = fresh();
            addRule(x, low + 4, 100, ~(low + 3));
            addRule(x, low + 3, 100, low + 2);
            addRule(x, low + 2, 100, low + 1);
            addRule(x, low + 1, 100, low);
            x.rule(low, 90);
            due("level " + level + ", upwards", x.certainty(low + 4), 10);
            CertaintyChainer y = fresh();
            addRule(y, low + 7, 100, ~low);
            addRule(y, low, 100, low + 1);
            addRule(y, low + 1, 100, low + 2);
            addRule(y, low + 2, 100, low + 3);
            y.rule(low + 3, 90);
            due("level " + level + ", downwards", y.certainty(low + 7), 10);
        }
    }

    private static void cycles() {
        for (int level = 0; level < 4; level++) {
            for (int size = 1; size <= 4; size++) {
                for (int ground = 0; ground < size; ground++) {
                    cycle(4 * level, size, ground);
                }
            }
        }
        // Two cycles that share a claim, the stronger way round being the longer one.
        CertaintyChainer x = fresh();
        addRule(x, 8, 60, 9);
        addRule(x, 9, 100, 8);
        addRule(x, 10, 90, 9);
        addRule(x, 8, 90, 10);
        x.observe(9, 100);
        due("two cycles", x.certainty(8), 81);
        due("two cycles", x.certainty(9), 100);
        due("two cycles", x.certainty(10), 90);
        addRule(x, 11, 100, 8, 10);
        addRule(x, 9, 100, 11);
        due("a conjunction of claims of a cycle", x.certainty(11), 81);
    }

    private static void cycle(int low, int size, int ground) {
        for (int direction = 1; direction >= -1; direction -= 2) {
            CertaintyChainer x = fresh();
            for (int i = 0; i < size; i++) {
                addRule(x, low + i, 100, low + (i + direction + size) % size);
            }
            for (int v : new int[] {0, 1, 99, 100, 1, 0}) {
                x.observe(low + ground, v);
                for (int i = 0; i < size; i++) {
                    String which = "cycle of " + size + " from " + low + ", claim " + (low + i);
                    due(which + ", ground " + v, x.certainty(low + i), v);
                }
            }
        }
    }

    private static void leastChoice() {
        CertaintyChainer x = fresh();
        addRule(x, 4, 100, 5);
        addRule(x, 5, 100, 4);
        due("a cycle holds itself up at 0 alone", x.certainty(4), 0);
        x.rule(4, 70);
        due("a cycle with ground", x.certainty(5), 70);
        x.strengthen(2, 20);
        due("less ground", x.certainty(5), 20);
        x.remove(2);
        due("no ground any more", x.certainty(5), 0);
        x.observe(5, 80);
        due("ground again", x.certainty(4), 80);
        x.observe(5, 30);
        due("less ground", x.certainty(4), 30);
        due("what if there were less", x.whatIf(4, 5, 1), 1);
        due("what if there were none", x.whatIf(4, 5, 0), 0);
        due("none is raised needlessly", x.atLeast(1), 2);
    }

    private static void supportsIfEqual() {
        CertaintyChainer x = fresh();
        x.rule(2, 50);
        due("equal", x.supporter(2), 0);
        x.observe(2, 50);
        due("equal to the observed one", x.supporter(2), 0);
        x.observe(2, 51);
        due("one less", x.supporter(2), -2);
        x.observe(2, 0);
        x.rule(2, 51);
        due("one less than another rule", x.supporter(2), 1);
        x.rule(3, 51);
        due("equal, but of another head", x.supporter(3), 2);
        due("no rule has this head", x.supporter(1), -2);
        addRule(x, 6, 100, 6);
        x.observe(6, 33);
        due("a rule by its own head", x.supporter(6), 3);
    }

    private static void supportsAboveZero() {
        CertaintyChainer x = fresh();
        addRule(x, 1, 100, 0);
        due("equal to 0", x.supporter(1), -2);
        x.observe(0, 1);
        due("equal to 1", x.supporter(1), 0);
        x.strengthen(0, 99);
        due("the quotient is 0", x.supporter(1), -2);
        addRule(x, 8, 100, 0, ~7);
        x.observe(7, 100);
        due("a negation gives 0", x.supporter(8), -2);
        x.observe(7, 99);
        due("a negation gives 1", x.supporter(8), 1);
    }

    private static void draftAtFirst() {
        due("clear()", fresh().clear(), 0);
        due("premise(15, 0)", fresh().premise(15, 0), 1);
        CertaintyChainer x = fresh();
        due("a rule for the lowest level", x.rule(0, 100), 0);
        due("it has no premise", x.yield(0), 100);
    }

    private interface Call {
        int on(CertaintyChainer x);
    }

    /** Three states: no rule, some rules, and the full list with a full draft; rules raise some of the claims. */
    private static CertaintyChainer state(int kind) {
        CertaintyChainer x = fresh();
        for (int c = 0; c < 16; c++) {
            x.observe(c, (37 * c + 11) % 41);
        }
        int count = kind == 0 ? 0 : kind == 1 ? 5 : 20;
        for (int r = 0; r < count; r++) {
            int head = (7 * r + 5) % 16;
            int low = head / 4 == 0 ? head : ~(head - 4);
            int[][] premises = {{head, low, 3}, {}, {low}, {low, 0}};
            due("rule in state", addRule(x, head, 99 - 3 * r, premises[r % 4]), r);
        }
        x.premise(9, 1);
        x.premise(1, 0);
        if (kind == 2) {
            x.premise(13, 0);
        }
        return x;
    }

    /**
     * One look at the state, by calls that are no questions up to the last one: a question that changes
     * something would hide its own change from a comparison. A look below 0 asks no question at all.
     */
    private static String look(CertaintyChainer x, int look, int probe, int probeValue) {
        StringBuilder out = new StringBuilder();
        // At strength 30 no rule raises a claim observed with 40 or more: a yield shows the least premise alone.
        for (int r = 0; r <= 20; r++) {
            out.append(x.strengthen(r, 30)).append(' ');
        }
        for (int c = 0; c < 16; c++) {
            out.append(x.observe(c, c == probe ? probeValue : 50)).append(' ');
        }
        if (look < 0) {
            return out.append(x.clear()).toString();
        }
        if (look < 20) {
            return out.append(probe < 0 ? x.headOf(look) : x.yield(look)).toString();
        }
        // The draft is seen by making it a rule, for which a full list needs room.
        int last = x.remove(19);
        int made = x.rule(15, 30);
        return out.append(last).append(' ').append(made).append(' ').append(x.yield(made)).toString();
    }

    private static String[] allLooks(int kind, Call asked) {
        String[] looks = new String[22 * 33];
        for (int look = -1; look <= 20; look++) {
            for (int p = 0; p < 33; p++) {
                CertaintyChainer x = state(kind);
                asked.on(x);
                looks[(look + 1) * 33 + p] = look(x, look, p == 32 ? -1 : p / 2, p % 2 == 0 ? 40 : 60);
            }
        }
        return looks;
    }

    private static void changesNothing(String call, int kind, Call asked) {
        String[] before = allLooks(kind, x -> 0);
        String[] after = allLooks(kind, asked);
        for (int i = 0; i < after.length; i++) {
            if (!after[i].equals(before[i])) {
                wrong++;
                System.out.println("[" + sentence + "] " + call + " changed state " + kind + " from\n"
                        + before[i] + " to\n" + after[i]);
                return;
            }
        }
    }

    private static void question(String call, Call asked) {
        for (int kind = 0; kind < 3; kind++) {
            int first = asked.on(state(kind));
            CertaintyChainer x = state(kind);
            asked.on(x);
            due(call + " asked again in state " + kind, asked.on(x), first);
            changesNothing(call, kind, asked);
        }
    }

    private static void questionsChangeNothing() {
        question("rules()", x -> x.rules());
        question("essential()", x -> x.essential());
        for (int bound : new int[] {LOW, 0, 50, HIGH}) {
            question("atLeast(" + bound + ")", x -> x.atLeast(bound));
        }
        for (int rule : new int[] {0, 1, 2, 3, 4, 19}) {
            question("headOf(" + rule + ")", x -> x.headOf(rule));
            question("yield(" + rule + ")", x -> x.yield(rule));
            question("without(5, " + rule + ")", x -> x.without(5, rule));
        }
        for (int claim = 0; claim < 16; claim++) {
            int c = claim;
            question("observed(" + c + ")", x -> x.observed(c));
            question("certainty(" + c + ")", x -> x.certainty(c));
            question("supporter(" + c + ")", x -> x.supporter(c));
            question("influence(" + c + ")", x -> x.influence(c));
            question("strongest(" + c + ", 15)", x -> x.strongest(c, 15));
            question("whatIf(" + c + ", " + c + ", 0)", x -> x.whatIf(c, c, 0));
            question("whatIf(12, " + c + ", 100)", x -> x.whatIf(12, c, 100));
        }
    }

    private static void refused(String call, int kind, int want, Call asked) {
        due(call + " in state " + kind, asked.on(state(kind)), want);
        changesNothing(call, kind, asked);
    }

    private static void refusedCallsChangeNothing() {
        for (int kind = 0; kind < 3; kind++) {
            for (int bad : new int[] {-1, 16, LOW, HIGH}) {
                refused("premise(" + bad + ", 1)", kind, -1, x -> x.premise(bad, 1));
                refused("rule(" + bad + ", 50)", kind, -1, x -> x.rule(bad, 50));
                refused("observe(" + bad + ", 50)", kind, -1, x -> x.observe(bad, 50));
                refused("observed(" + bad + ")", kind, -1, x -> x.observed(bad));
                refused("certainty(" + bad + ")", kind, -1, x -> x.certainty(bad));
                refused("whatIf(" + bad + ", 0, 50)", kind, -1, x -> x.whatIf(bad, 0, 50));
                refused("whatIf(0, " + bad + ", 50)", kind, -1, x -> x.whatIf(0, bad, 50));
                refused("without(" + bad + ", 0)", kind, -1, x -> x.without(bad, 0));
                refused("supporter(" + bad + ")", kind, -1, x -> x.supporter(bad));
                refused("strongest(" + bad + ", 3)", kind, -1, x -> x.strongest(bad, 3));
                refused("strongest(3, " + bad + ")", kind, -1, x -> x.strongest(3, bad));
                refused("influence(" + bad + ")", kind, -1, x -> x.influence(bad));
            }
            int count = state(kind).rules();
            for (int bad : new int[] {-1, count, 20, LOW, HIGH}) {
                refused("remove(" + bad + ")", kind, -1, x -> x.remove(bad));
                refused("strengthen(" + bad + ", 50)", kind, -1, x -> x.strengthen(bad, 50));
                refused("headOf(" + bad + ")", kind, -1, x -> x.headOf(bad));
                refused("without(0, " + bad + ")", kind, -2, x -> x.without(0, bad));
                refused("yield(" + bad + ")", kind, -1, x -> x.yield(bad));
            }
            for (int bad : new int[] {-1, 101, LOW, HIGH}) {
                refused("rule(12, " + bad + ")", kind, -2, x -> x.rule(12, bad));
                refused("strengthen(0, " + bad + ")", kind, count == 0 ? -1 : -2, x -> x.strengthen(0, bad));
                refused("observe(12, " + bad + ")", kind, -2, x -> x.observe(12, bad));
                refused("whatIf(12, 0, " + bad + ")", kind, -2, x -> x.whatIf(12, 0, bad));
            }
            refused("rule(12, 0)", kind, -2, x -> x.rule(12, 0));
            refused("strongest(3, 2)", kind, -2, x -> x.strongest(3, 2));
        }
        refused("supporter(7)", 0, -2, x -> x.supporter(7));
        refused("rule(11, 50)", 1, -3, x -> x.rule(11, 50));
        refused("rule(11, 50)", 2, -3, x -> x.rule(11, 50));
        refused("rule(12, 50)", 2, -4, x -> x.rule(12, 50));
        refused("premise(0, 0)", 2, -2, x -> x.premise(0, 0));
        refused("premise(15, 1)", 2, -2, x -> x.premise(15, 1));
    }

    private static void orderOfTests() {
        CertaintyChainer x = state(2);
        due("premise, bad claim and a full draft", x.premise(16, 0), -1);
        due("premise, a full draft", x.premise(15, 0), -2);
        due("rule, all four", x.rule(16, 0), -1);
        due("rule, bad head and a full list", x.rule(-1, 50), -1);
        due("rule, bad strength, a misfit and a full list", x.rule(0, 101), -2);
        due("rule, bad strength and a full list", x.rule(15, 0), -2);
        due("rule, a misfit and a full list", x.rule(11, 50), -3);
        due("rule, a full list", x.rule(15, 50), -4);
        due("strengthen, no such rule and bad strength", x.strengthen(20, 0), -1);
        due("observe, bad claim and bad certainty", x.observe(16, 101), -1);
        due("whatIf, bad claim and bad value", x.whatIf(16, 0, 101), -1);
        due("whatIf, bad other and bad value", x.whatIf(0, -1, -1), -1);
        due("without, bad claim and no such rule", x.without(16, 20), -1);
        due("strongest, bad first above last", x.strongest(16, 15), -1);
        due("strongest, bad last below first", x.strongest(0, -1), -1);
        due("strongest, both bad and crossed", x.strongest(17, 16), -1);
        due("strongest, both bad and crossed", x.strongest(HIGH, LOW), -1);
    }

    private static void goodClaims() {
        for (int claim = 0; claim < 16; claim++) {
            CertaintyChainer x = fresh();
            due("observe", x.observe(claim, 10), 0);
            due("observed", x.observed(claim), 10);
            due("certainty", x.certainty(claim), 10);
            due("influence", x.influence(claim), 1);
            due("supporter", x.supporter(claim), -2);
            due("premise", x.premise(claim, 0), 1);
            due("rule", x.rule(claim, 100), 0);
            due("without", x.without(claim, 0), 10);
            due("whatIf", x.whatIf(claim, claim, 9), 9);
            due("strongest", x.strongest(claim, 15), claim);
            due("strongest", x.strongest(0, claim), claim);
        }
        for (int bad : BAD_CLAIMS) {
            CertaintyChainer x = fresh();
            x.rule(0, 50);
            due("observe(" + bad + ")", x.observe(bad, 10), -1);
            due("observed(" + bad + ")", x.observed(bad), -1);
            due("certainty(" + bad + ")", x.certainty(bad), -1);
            due("influence(" + bad + ")", x.influence(bad), -1);
            due("supporter(" + bad + ")", x.supporter(bad), -1);
            due("premise(" + bad + ")", x.premise(bad, 0), -1);
            due("rule(" + bad + ")", x.rule(bad, 100), -1);
            due("without(" + bad + ")", x.without(bad, 0), -1);
            due("whatIf(" + bad + ", 0)", x.whatIf(bad, 0, 9), -1);
            due("whatIf(0, " + bad + ")", x.whatIf(0, bad, 9), -1);
            due("strongest(" + bad + ", 15)", x.strongest(bad, 15), -1);
            due("strongest(0, " + bad + ")", x.strongest(0, bad), -1);
        }
    }
}
