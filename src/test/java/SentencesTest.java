/** One test for each sentence of the promises 1 to 19 that names a boundary case; it is named by the sentence. */
public final class SentencesTest {
    private static final int LOW = Integer.MIN_VALUE;
    private static final int HIGH = Integer.MAX_VALUE;
    private static final int[] BAD_CLAIMS = {-1, 16, 17, -16, 256, LOW, LOW + 1, HIGH};
    private static final int[] BAD_STRENGTHS = {0, 101, -1, 256, LOW, HIGH};
    private static final int[] BAD_CERTAINTIES = {-1, 101, -100, 256, LOW, HIGH};

    private static String sentence = "";
    private static int sentences = 0;
    private static int wrong = 0;

    public static void main(String[] args) {
        structurePromises();
        changePromises();
        readingPromises();
        questionPromises();
        System.out.println(wrong == 0 ? "all " + sentences + " sentences hold" : wrong + " answers are wrong");
        if (wrong != 0) {
            System.exit(1);
        }
    }

    private static void structurePromises() {
        holds("1: No rules at first", SentencesTest::noRulesAtFirst);
        holds("2: Puts a premise into the draft: the claim (negated 0)", SentencesTest::premiseClaim);
        holds("2: or its negation (negated not 0)", SentencesTest::premiseNegation);
        holds("2: -1 if claim is not good", SentencesTest::premiseBadClaim);
        holds("2: -2 if the draft has 3 premises", SentencesTest::premiseFullDraft);
        holds("2: otherwise answers how many it has now", SentencesTest::premiseCount);
        holds("3: The draft becomes empty", SentencesTest::clearEmpties);
        holds("3: answers how many premises it had", SentencesTest::clearCount);
        holds("4: Puts a rule with the draft's premises at the end of the list", SentencesTest::ruleAtTheEnd);
        holds("4: the draft becomes empty", SentencesTest::ruleEmptiesDraft);
        holds("4: -1 if head is not good", SentencesTest::ruleBadHead);
        holds("4: -2 if strength is not in 1 .. 100", SentencesTest::ruleBadStrength);
        holds("4: -3 if a premise's level does not fit", SentencesTest::ruleMisfit);
        holds("4: -4 if there are 20 rules", SentencesTest::ruleFullList);
        holds("4: otherwise answers its number (0 for the first)", SentencesTest::ruleNumber);
        holds("4: After a refusal the draft stays as it is", SentencesTest::ruleRefusalKeepsDraft);
        holds("5: Takes a rule out; later ones get numbers less by one", SentencesTest::removeMovesDown);
        holds("5: -1 if there is no such rule", SentencesTest::removeNoRule);
        holds("5: otherwise answers how many are left", SentencesTest::removeCount);
    }

    private static void changePromises() {
        holds("6: Sets the strength of a rule", SentencesTest::strengthenSets);
        holds("6: -1 if there is no such rule", SentencesTest::strengthenNoRule);
        holds("6: -2 if strength is not in 1 .. 100", SentencesTest::strengthenBadStrength);
        holds("6: otherwise answers the one before", SentencesTest::strengthenBefore);
        holds("7: Sets the observed certainty of a claim", SentencesTest::observeSets);
        holds("7: -1 if claim is not good", SentencesTest::observeBadClaim);
        holds("7: -2 if certainty is not in 0 .. 100", SentencesTest::observeBadCertainty);
        holds("7: otherwise answers the one before", SentencesTest::observeBefore);
    }

    private static void readingPromises() {
        holds("8: How many rules there are", SentencesTest::rulesCount);
        holds("9: The head of a rule", SentencesTest::headOfRule);
        holds("9: -1 if there is no such rule", SentencesTest::headOfNoRule);
        holds("10: The observed certainty of a claim", SentencesTest::observedValue);
        holds("10: -1 if claim is not good", SentencesTest::observedBadClaim);
        holds("11: The certainty of a claim", SentencesTest::certaintyValue);
        holds("11: -1 if claim is not good", SentencesTest::certaintyBadClaim);
    }

    private static void questionPromises() {
        holds("12: The certainty that a claim would have if the observed certainty of another",
                SentencesTest::whatIfAnother);
        holds("12: (or of itself)", SentencesTest::whatIfItself);
        holds("12: -1 if claim or other is not good", SentencesTest::whatIfBadClaim);
        holds("12: -2 if value is not in 0 .. 100", SentencesTest::whatIfBadValue);
        holds("12: Nothing is changed", SentencesTest::whatIfChangesNothing);
        holds("13: The certainty that a claim would have without a rule", SentencesTest::withoutRule);
        holds("13: -1 if claim is not good", SentencesTest::withoutBadClaim);
        holds("13: -2 if there is no such rule", SentencesTest::withoutNoRule);
        holds("13: Nothing is changed", SentencesTest::withoutChangesNothing);
        holds("14: The least number of a rule that supports the claim", SentencesTest::supporterLeast);
        holds("14: -1 if claim is not good", SentencesTest::supporterBadClaim);
        holds("14: -2 if there is none", SentencesTest::supporterNone);
        holds("15: The value (m * strength) / 100 of a rule at the certainties", SentencesTest::yieldValue);
        holds("15: -1 if there is no such rule", SentencesTest::yieldNoRule);
        holds("16: How many claims have a certainty of at least bound", SentencesTest::atLeastCount);
        holds("16: (any int)", SentencesTest::atLeastAnyInt);
        holds("17: The least claim with the greatest certainty", SentencesTest::strongestLeastClaim);
        holds("17: among the claims first .. last", SentencesTest::strongestEnds);
        holds("17: -1 if first or last is not good", SentencesTest::strongestBadClaim);
        holds("17: -2 if first > last", SentencesTest::strongestCrossed);
        holds("18: How many rules there are without which (each taken out alone) some claim would have another certainty",
                SentencesTest::essentialCount);
        holds("18: each taken out alone", SentencesTest::essentialAlone);
        holds("19: How many claims' certainties would be other ones if the observed certainty of the claim were 0",
                SentencesTest::influenceCount);
        holds("19: -1 if claim is not good", SentencesTest::influenceBadClaim);
    }

    private static void holds(String words, Runnable test) {
        sentence = words;
        sentences++;
        try {
            test.run();
        } catch (RuntimeException e) {
            wrong++;
            System.out.println("[" + words + "] a call threw " + e);
        }
    }

    private static void due(String what, int got, int want) {
        if (got != want) {
            wrong++;
            System.out.println("[" + sentence + "] " + what + " answered " + got + ", due is " + want);
        }
    }

    private static CertaintyChainer fresh() {
        return new CertaintyChainer();
    }

    /** A premise is given as its claim, or as ~claim for the negation. */
    private static int addRule(CertaintyChainer x, int head, int strength, int... premises) {
        for (int p : premises) {
            int put = p < 0 ? x.premise(~p, 1) : x.premise(p, 0);
            if (put < 1) {
                due("premise in addRule", put, 1);
            }
        }
        return x.rule(head, strength);
    }

    /** Rules without premises: number r has the head r % 16 and the strength r + 1. */
    private static CertaintyChainer withRules(int count) {
        CertaintyChainer x = fresh();
        for (int r = 0; r < count; r++) {
            x.rule(r % 16, r + 1);
        }
        return x;
    }

    /** Numbers that are no rule's when there are count rules. */
    private static int[] noRules(int count) {
        return new int[] {-1, count, count + 1, 20, 21, 60, -20, LOW, LOW + 1, HIGH};
    }

    private static void noRulesAtFirst() {
        due("rules()", fresh().rules(), 0);
        for (int r = 0; r < 20; r++) {
            due("headOf(" + r + ")", fresh().headOf(r), -1);
            due("yield(" + r + ")", fresh().yield(r), -1);
            due("remove(" + r + ")", fresh().remove(r), -1);
        }
        CertaintyChainer x = withRules(20);
        due("of another object", fresh().rules(), 0);
        due("of the object itself", x.rules(), 20);
        due("essential()", fresh().essential(), 0);
    }

    private static void premiseClaim() {
        for (int claim = 0; claim < 16; claim++) {
            CertaintyChainer x = fresh();
            x.observe(claim, 30);
            x.premise(claim, 0);
            due("a claim fits a head of its own level", x.rule(claim / 4 * 4, 100), 0);
            due("its value", x.yield(0), 30);
        }
    }

    private static void premiseNegation() {
        for (int negated : new int[] {1, -1, 2, 256, 65536, 1 << 31, LOW, HIGH}) {
            for (int claim = 0; claim < 12; claim++) {
                CertaintyChainer x = fresh();
                x.observe(claim, 30);
                x.premise(claim, negated);
                due("negated " + negated + ", a head of the same level", x.rule(claim, 100), -3);
                due("negated " + negated + ", a head above", x.rule(claim + 4, 100), 0);
                due("its value, negated " + negated, x.yield(0), 70);
            }
        }
    }

    private static void premiseBadClaim() {
        for (int bad : BAD_CLAIMS) {
            CertaintyChainer x = fresh();
            due("premise(" + bad + ", 0)", x.premise(bad, 0), -1);
            due("premise(" + bad + ", 1)", x.premise(bad, 1), -1);
            due("nothing was put", x.clear(), 0);
        }
        due("premise(0, 0)", fresh().premise(0, 0), 1);
        due("premise(15, 1)", fresh().premise(15, 1), 1);
    }

    private static void premiseFullDraft() {
        CertaintyChainer x = fresh();
        due("the second", x.premise(4, 0) + x.premise(4, 0), 3);
        due("the third", x.premise(4, 0), 3);
        due("the fourth", x.premise(4, 0), -2);
        due("the fifth", x.premise(0, 1), -2);
        due("how many there are", x.clear(), 3);
        due("room again", x.premise(0, 0), 1);
    }

    private static void premiseCount() {
        CertaintyChainer x = fresh();
        for (int round = 0; round < 3; round++) {
            due("first", x.premise(0, 0), 1);
            due("second", x.premise(1, 1), 2);
            due("third", x.premise(15, 0), 3);
            due("clear()", x.clear(), 3);
        }
        CertaintyChainer y = fresh();
        due("a claim", y.premise(9, 0), 1);
        due("the same once more", y.premise(9, 0), 2);
        due("its negation", y.premise(9, 1), 3);
    }

    private static void clearEmpties() {
        for (int n = 0; n <= 3; n++) {
            CertaintyChainer x = fresh();
            for (int i = 0; i < n; i++) {
                x.premise(12 + i, 1);
            }
            x.clear();
            due("again after " + n, x.clear(), 0);
            due("a rule for which the cleared ones would not fit", x.rule(0, 90), 0);
            due("it has none of them", x.yield(0), 90);
            due("the next premise", x.premise(3, 0), 1);
        }
        CertaintyChainer y = fresh();
        addRule(y, 4, 100, 0);
        y.premise(1, 0);
        y.clear();
        due("the rules stay", y.rules(), 1);
        y.observe(0, 40);
        due("the premises of rules stay", y.yield(0), 40);
    }

    private static void clearCount() {
        CertaintyChainer x = fresh();
        due("none", x.clear(), 0);
        x.premise(0, 0);
        due("one", x.clear(), 1);
        x.premise(0, 0);
        x.premise(0, 0);
        due("two of the same", x.clear(), 2);
        x.premise(0, 0);
        x.premise(0, 1);
        x.premise(0, 0);
        x.premise(0, 0);
        due("three and a refused one", x.clear(), 3);
        x.premise(16, 0);
        due("a refused one alone", x.clear(), 0);
    }

    private static void ruleAtTheEnd() {
        CertaintyChainer x = fresh();
        for (int c = 0; c < 4; c++) {
            x.observe(c, 60 + 10 * c);
        }
        for (int r = 0; r < 20; r++) {
            addRule(x, 4 + r % 12, 100, r % 4, ~(r % 3));
            due("the head of the last one", x.headOf(r), 4 + r % 12);
            int negation = 100 - (60 + 10 * (r % 3));
            due("the premises of the last one", x.yield(r), negation);
        }
        for (int r = 0; r < 20; r++) {
            due("the head of rule " + r, x.headOf(r), 4 + r % 12);
        }
        CertaintyChainer y = fresh();
        for (int c = 0; c < 3; c++) {
            y.observe(c, 90);
        }
        addRule(y, 3, 100, 0, 1, 2);
        for (int c = 0; c < 3; c++) {
            y.observe(c, 45);
            due("premise " + c + " is in the rule", y.yield(0), 45);
            y.observe(c, 90);
        }
        y.remove(0);
        y.rule(8, 33);
        due("in the place of a rule with premises, none", y.yield(0), 33);
        due("in the place of another rule, the head", y.headOf(0), 8);
        y.remove(0);
        addRule(y, 8, 100, ~0);
        due("in the place of another rule, a negation", y.yield(0), 10);
        y.remove(0);
        addRule(y, 8, 100, 0, 1);
        due("in the place of a rule with a negation, claims", y.yield(0), 90);
    }

    private static void ruleEmptiesDraft() {
        for (int n = 0; n <= 3; n++) {
            CertaintyChainer x = fresh();
            for (int i = 0; i < n; i++) {
                x.premise(i, 1);
            }
            due("a rule with " + n, x.rule(4, 100), 0);
            due("the draft after it", x.clear(), 0);
            due("a rule without premises", x.rule(0, 80), 1);
            due("it has none", x.yield(1), 80);
        }
    }

    private static void ruleBadHead() {
        for (int bad : BAD_CLAIMS) {
            CertaintyChainer x = fresh();
            due("rule(" + bad + ", 50)", x.rule(bad, 50), -1);
            due("rules()", x.rules(), 0);
        }
        due("rule(0, 50)", fresh().rule(0, 50), 0);
        due("rule(15, 50)", fresh().rule(15, 50), 0);
    }

    private static void ruleBadStrength() {
        for (int bad : BAD_STRENGTHS) {
            CertaintyChainer x = fresh();
            due("rule(5, " + bad + ")", x.rule(5, bad), -2);
            due("rules()", x.rules(), 0);
        }
        due("rule(5, 1)", fresh().rule(5, 1), 0);
        due("rule(5, 100)", fresh().rule(5, 100), 0);
    }

    private static void ruleMisfit() {
        due("a claim one level above", addRule(fresh(), 3, 50, 4), -3);
        due("a claim of the same level", addRule(fresh(), 4, 50, 7), 0);
        due("a negation of the same level", addRule(fresh(), 7, 50, ~4), -3);
        due("a negation one level below", addRule(fresh(), 4, 50, ~3), 0);
        due("a negation above", addRule(fresh(), 4, 50, ~8), -3);
        due("the head as a claim", addRule(fresh(), 9, 50, 9), 0);
        due("the head as a negation", addRule(fresh(), 9, 50, ~9), -3);
        due("the first of three", addRule(fresh(), 7, 50, 8, 0, 0), -3);
        due("the second of three", addRule(fresh(), 7, 50, 0, ~4, 0), -3);
        due("the third of three", addRule(fresh(), 7, 50, 0, 0, 8), -3);
        due("none of three", addRule(fresh(), 7, 50, 4, ~3, 5), 0);
        CertaintyChainer x = fresh();
        addRule(x, 3, 50, 4);
        due("no rule was put", x.rules(), 0);
    }

    private static void ruleFullList() {
        CertaintyChainer x = withRules(19);
        due("the 20th", x.rule(7, 50), 19);
        due("the 21st", x.rule(7, 50), -4);
        due("the 21st for another head", x.rule(15, 100), -4);
        due("rules()", x.rules(), 20);
        due("the 20th is as it was", x.headOf(19), 7);
        due("a removal makes room", x.remove(5), 19);
        due("the 20th again", x.rule(8, 50), 19);
        due("the 21st again", x.rule(8, 50), -4);
    }

    private static void ruleNumber() {
        CertaintyChainer x = fresh();
        for (int r = 0; r < 20; r++) {
            due("number " + r, x.rule(r % 5, 50), r);
        }
        x.remove(3);
        x.remove(3);
        due("after two removals", x.rule(0, 50), 18);
        CertaintyChainer y = fresh();
        y.rule(16, 50);
        y.rule(0, 0);
        due("refused ones have no number", y.rule(0, 50), 0);
        y.remove(0);
        due("the first again", y.rule(0, 50), 0);
    }

    private static void ruleRefusalKeepsDraft() {
        for (int kind = 1; kind <= 4; kind++) {
            CertaintyChainer x = kind == 4 ? withRules(20) : fresh();
            x.premise(0, 0);
            x.premise(4, 1);
            int[] heads = {0, 16, 8, 7, 8};
            due("refusal " + kind, x.rule(heads[kind], kind == 2 ? 101 : 50), -kind);
            if (kind == 4) {
                x.remove(0);
            }
            due("the third premise after refusal " + kind, x.premise(9, 0), 3);
            int made = x.rules();
            due("the rule after refusal " + kind, x.rule(8, 100), made);
            int[][] observed = {{40, 0, 100, 40}, {100, 70, 100, 30}, {100, 0, 50, 50}};
            for (int[] v : observed) {
                x.observe(0, v[0]);
                x.observe(4, v[1]);
                x.observe(9, v[2]);
                due("the premises after refusal " + kind, x.yield(made), v[3]);
            }
        }
    }

    private static void removeMovesDown() {
        for (int count : new int[] {1, 2, 5, 20}) {
            for (int taken = 0; taken < count; taken++) {
                CertaintyChainer x = fresh();
                x.observe(0, 90);
                x.observe(4, 40);
                for (int r = 0; r < count; r++) {
                    int[][] premises = {{}, {0}, {~4}, {0, ~4, 12}};
                    addRule(x, 12 + r % 3, 60 + r, premises[r % 4]);
                }
                x.observe(12, 100);
                x.remove(taken);
                for (int r = 0; r < count - 1; r++) {
                    int old = r < taken ? r : r + 1;
                    int[] m = {100, 90, 60, 60};
                    String which = "rule " + old + " of " + count + " without " + taken;
                    due(which + ", head", x.headOf(r), 12 + old % 3);
                    due(which + ", value", x.yield(r), m[old % 4] * (60 + old) / 100);
                    due(which + ", strength", x.strengthen(r, 60 + old), 60 + old);
                }
                due("the number after the last", x.headOf(count - 1), -1);
            }
        }
        CertaintyChainer y = fresh();
        y.rule(3, 50);
        y.remove(0);
        due("the rule has no effect any more", y.certainty(3), 0);
    }

    private static void removeNoRule() {
        for (int count : new int[] {0, 1, 19, 20}) {
            for (int bad : noRules(count)) {
                if (bad >= 0 && bad < count) {
                    continue;
                }
                CertaintyChainer x = withRules(count);
                due("remove(" + bad + ") of " + count, x.remove(bad), -1);
                due("how many there are", x.rules(), count);
            }
        }
        CertaintyChainer y = withRules(2);
        due("the last one", y.remove(1), 1);
        due("the last one once more", y.remove(1), -1);
        due("the first one", y.remove(0), 0);
        due("the first one once more", y.remove(0), -1);
    }

    private static void removeCount() {
        CertaintyChainer first = withRules(20);
        CertaintyChainer last = withRules(20);
        for (int left = 19; left >= 0; left--) {
            due("the first one taken out", first.remove(0), left);
            due("the last one taken out", last.remove(left), left);
        }
    }

    private static void strengthenSets() {
        CertaintyChainer x = withRules(20);
        for (int r = 0; r < 20; r++) {
            for (int strength : new int[] {100, 1, 37}) {
                x.strengthen(r, strength);
                due("rule " + r + ", strength " + strength, x.yield(r), strength);
            }
            if (r + 1 < 20) {
                due("the next rule", x.yield(r + 1), r + 2);
            }
        }
        CertaintyChainer y = fresh();
        y.observe(0, 50);
        addRule(y, 4, 10, 0);
        y.strengthen(0, 100);
        due("the premises stay", y.yield(0), 50);
        due("the head stays", y.headOf(0), 4);
    }

    private static void strengthenNoRule() {
        for (int count : new int[] {0, 1, 19, 20}) {
            CertaintyChainer x = withRules(count);
            for (int bad : noRules(count)) {
                if (bad < 0 || bad >= count) {
                    due("strengthen(" + bad + ", 50) of " + count, x.strengthen(bad, 50), -1);
                }
            }
        }
        CertaintyChainer y = withRules(3);
        y.remove(0);
        due("a number that is not there any more", y.strengthen(2, 50), -1);
        y.rule(0, 60);
        due("the refused strength was not kept for a new rule", y.strengthen(2, 50), 60);
    }

    private static void strengthenBadStrength() {
        CertaintyChainer x = withRules(20);
        for (int r = 0; r < 20; r++) {
            for (int bad : BAD_STRENGTHS) {
                due("strengthen(" + r + ", " + bad + ")", x.strengthen(r, bad), -2);
            }
            due("the strength stays", x.yield(r), r + 1);
        }
        due("strength 1", x.strengthen(0, 1), 1);
        due("strength 100", x.strengthen(0, 100), 1);
    }

    private static void strengthenBefore() {
        CertaintyChainer x = fresh();
        x.observe(1, 50);
        addRule(x, 0, 1, 1);
        addRule(x, 0, 100, 1);
        due("1 before", x.strengthen(0, 100), 1);
        due("100 before", x.strengthen(0, 77), 100);
        due("the same", x.strengthen(0, 77), 77);
        x.strengthen(0, 101);
        due("after a refusal", x.strengthen(0, 5), 77);
        due("the other rule", x.strengthen(1, 5), 100);
    }

    private static void observeSets() {
        CertaintyChainer x = fresh();
        for (int c = 0; c < 16; c++) {
            for (int v : new int[] {100, 0, 1, 99, 50 + c}) {
                x.observe(c, v);
                due("observed(" + c + ")", x.observed(c), v);
                due("certainty(" + c + ")", x.certainty(c), v);
            }
            if (c + 1 < 16) {
                due("the next claim", x.observed(c + 1), 0);
            }
            if (c > 0) {
                due("the claim before", x.observed(c - 1), 49 + c);
            }
        }
    }

    private static void observeBadClaim() {
        CertaintyChainer x = fresh();
        for (int bad : BAD_CLAIMS) {
            due("observe(" + bad + ", 50)", x.observe(bad, 50), -1);
        }
        due("nothing was observed", x.atLeast(1), 0);
        due("observe(0, 50)", x.observe(0, 50), 0);
        due("observe(15, 50)", x.observe(15, 50), 0);
    }

    private static void observeBadCertainty() {
        CertaintyChainer x = fresh();
        x.observe(6, 60);
        for (int bad : BAD_CERTAINTIES) {
            due("observe(6, " + bad + ")", x.observe(6, bad), -2);
            due("it stays", x.observed(6), 60);
        }
        due("observe(6, 0)", x.observe(6, 0), 60);
        due("observe(6, 100)", x.observe(6, 100), 0);
    }

    private static void observeBefore() {
        CertaintyChainer x = fresh();
        x.rule(3, 80);
        due("0 at first, whatever the certainty", x.observe(3, 100), 0);
        due("100 before", x.observe(3, 0), 100);
        due("0 before", x.observe(3, 40), 0);
        due("the same", x.observe(3, 40), 40);
        x.observe(3, 101);
        due("after a refusal", x.observe(3, 5), 40);
    }

    private static void rulesCount() {
        CertaintyChainer x = fresh();
        for (int n = 0; n < 20; n++) {
            due("before rule " + n, x.rules(), n);
            x.rule(15, 50);
        }
        due("full", x.rules(), 20);
        x.rule(15, 50);
        due("after a refused rule", x.rules(), 20);
        x.remove(20);
        due("after a refused removal", x.rules(), 20);
        for (int n = 19; n >= 0; n--) {
            x.remove(0);
            due("after a removal", x.rules(), n);
        }
        x.remove(0);
        due("none", x.rules(), 0);
    }

    private static void headOfRule() {
        CertaintyChainer x = withRules(20);
        for (int r = 0; r < 20; r++) {
            due("headOf(" + r + ")", x.headOf(r), r % 16);
        }
        x.remove(0);
        due("moved down", x.headOf(0), 1);
        due("moved down", x.headOf(18), 3);
    }

    private static void headOfNoRule() {
        for (int count : new int[] {0, 1, 19, 20}) {
            CertaintyChainer x = withRules(count);
            for (int bad : noRules(count)) {
                if (bad < 0 || bad >= count) {
                    due("headOf(" + bad + ") of " + count, x.headOf(bad), -1);
                }
            }
        }
        CertaintyChainer y = withRules(20);
        y.remove(0);
        due("a number that is not there any more", y.headOf(19), -1);
    }

    private static void observedValue() {
        CertaintyChainer x = fresh();
        for (int c = 0; c < 16; c++) {
            due("at first", x.observed(c), 0);
            x.observe(c, c * 6);
            x.rule(c, 100);
            due("not the certainty", x.observed(c), c * 6);
        }
        x.observe(15, 100);
        due("100", x.observed(15), 100);
    }

    private static void observedBadClaim() {
        CertaintyChainer x = fresh();
        for (int bad : BAD_CLAIMS) {
            due("observed(" + bad + ")", x.observed(bad), -1);
        }
        due("observed(0)", x.observed(0), 0);
        due("observed(15)", x.observed(15), 0);
    }

    private static void certaintyValue() {
        CertaintyChainer x = fresh();
        for (int c = 0; c < 16; c++) {
            due("0 at first", x.certainty(c), 0);
        }
        for (int c = 0; c < 15; c++) {
            addRule(x, c + 1, 100, c);
        }
        x.observe(0, 1);
        due("1 through 15 rules", x.certainty(15), 1);
        x.observe(0, 100);
        due("100 through 15 rules", x.certainty(15), 100);
        x.strengthen(14, 99);
        due("99 of 100", x.certainty(15), 99);
        x.observe(0, 99);
        due("99 of 99", x.certainty(15), 98);
        addRule(x, 15, 100, ~0);
        due("another rule gives less", x.certainty(15), 98);
        x.observe(0, 0);
        due("the other rule gives more", x.certainty(15), 100);
    }

    private static void certaintyBadClaim() {
        CertaintyChainer x = withRules(20);
        for (int bad : BAD_CLAIMS) {
            due("certainty(" + bad + ")", x.certainty(bad), -1);
        }
        due("certainty(0)", x.certainty(0), 17);
        due("certainty(15)", x.certainty(15), 16);
    }

    private static void whatIfAnother() {
        CertaintyChainer x = fresh();
        addRule(x, 8, 50, 3);
        addRule(x, 15, 100, ~8);
        x.observe(3, 40);
        x.observe(8, 10);
        for (int v = 0; v <= 100; v++) {
            int at8 = Math.max(10, v * 50 / 100);
            due("whatIf(8, 3, " + v + ")", x.whatIf(8, 3, v), at8);
            due("whatIf(15, 3, " + v + ")", x.whatIf(15, 3, v), 100 - at8);
        }
        due("a claim that is not in reach", x.whatIf(3, 8, 100), 40);
        due("the observed one of the claim asked for stays", x.whatIf(8, 0, 0), 20);
        due("as it is", x.whatIf(8, 3, 40), 20);
        due("a cycle without its ground", cycleOfTwo().whatIf(1, 0, 0), 0);
        due("a cycle with less ground", cycleOfTwo().whatIf(1, 0, 1), 1);
    }

    /** Claims 0 and 1 hold each other up; the ground is 50, observed at claim 0. */
    private static CertaintyChainer cycleOfTwo() {
        CertaintyChainer x = fresh();
        addRule(x, 0, 100, 1);
        addRule(x, 1, 100, 0);
        x.observe(0, 50);
        return x;
    }

    private static void whatIfItself() {
        for (int c = 0; c < 16; c++) {
            CertaintyChainer x = fresh();
            x.observe(c, 90);
            x.rule(c, 50);
            due("0", x.whatIf(c, c, 0), 50);
            due("one less than the rule gives", x.whatIf(c, c, 49), 50);
            due("as much", x.whatIf(c, c, 50), 50);
            due("one more", x.whatIf(c, c, 51), 51);
            due("100", x.whatIf(c, c, 100), 100);
        }
        due("in a cycle", cycleOfTwo().whatIf(0, 0, 7), 7);
        due("in a cycle, none", cycleOfTwo().whatIf(0, 0, 0), 0);
    }

    private static void whatIfBadClaim() {
        CertaintyChainer x = withRules(20);
        for (int bad : BAD_CLAIMS) {
            due("whatIf(" + bad + ", 0, 50)", x.whatIf(bad, 0, 50), -1);
            due("whatIf(0, " + bad + ", 50)", x.whatIf(0, bad, 50), -1);
            due("whatIf(" + bad + ", " + bad + ", 50)", x.whatIf(bad, bad, 50), -1);
            due("with a bad value too", x.whatIf(bad, 0, 101), -1);
            due("with a bad value too", x.whatIf(0, bad, -1), -1);
        }
        due("whatIf(0, 15, 50)", x.whatIf(0, 15, 50), 17);
        due("whatIf(15, 0, 50)", x.whatIf(15, 0, 50), 16);
    }

    private static void whatIfBadValue() {
        CertaintyChainer x = fresh();
        for (int bad : BAD_CERTAINTIES) {
            due("whatIf(0, 1, " + bad + ")", x.whatIf(0, 1, bad), -2);
            due("whatIf(0, 0, " + bad + ")", x.whatIf(0, 0, bad), -2);
        }
        due("value 0", x.whatIf(0, 0, 0), 0);
        due("value 100", x.whatIf(0, 0, 100), 100);
    }

    private static void whatIfChangesNothing() {
        CertaintyChainer x = cycleOfTwo();
        addRule(x, 4, 100, ~1);
        x.premise(2, 0);
        for (int v : new int[] {0, 50, 100}) {
            x.whatIf(4, 0, v);
            x.whatIf(0, 0, v);
            x.whatIf(4, 4, v);
            due("observed(0)", x.observed(0), 50);
            due("observed(4)", x.observed(4), 0);
            due("certainty(1)", x.certainty(1), 50);
            due("certainty(4)", x.certainty(4), 50);
        }
        x.whatIf(0, 0, 101);
        due("after a refusal", x.observed(0), 50);
        due("rules()", x.rules(), 3);
        due("the draft", x.clear(), 1);
    }

    private static void withoutRule() {
        CertaintyChainer x = withRules(20);
        for (int r = 0; r < 20; r++) {
            int head = r % 16;
            int rest = r >= 16 ? r - 15 : r < 4 ? r + 17 : 0;
            due("without(" + head + ", " + r + ")", x.without(head, r), rest);
            int next = (head + 1) % 16;
            due("the next claim", x.without(next, r), next < 4 ? next + 17 : next + 1);
        }
        CertaintyChainer y = fresh();
        y.rule(0, 70);
        addRule(y, 1, 100, 0);
        addRule(y, 0, 100, 1);
        addRule(y, 4, 100, ~1);
        y.observe(1, 20);
        due("a cycle without its ground", y.without(0, 0), 20);
        due("a negation of the cycle", y.without(4, 0), 80);
        due("the way into the cycle", y.without(1, 1), 20);
        due("the way back", y.without(0, 2), 70);
        due("the only rule", y.without(4, 3), 0);
    }

    private static void withoutBadClaim() {
        CertaintyChainer x = withRules(20);
        for (int bad : BAD_CLAIMS) {
            due("without(" + bad + ", 0)", x.without(bad, 0), -1);
            due("no such rule either", x.without(bad, 20), -1);
        }
        due("without(0, 16)", x.without(0, 16), 1);
        due("without(15, 15)", x.without(15, 15), 0);
    }

    private static void withoutNoRule() {
        for (int count : new int[] {0, 1, 19, 20}) {
            CertaintyChainer x = withRules(count);
            for (int bad : noRules(count)) {
                if (bad < 0 || bad >= count) {
                    due("without(0, " + bad + ") of " + count, x.without(0, bad), -2);
                }
            }
        }
        CertaintyChainer y = withRules(20);
        y.remove(0);
        due("a number that is not there any more", y.without(0, 19), -2);
        due("the last one", y.without(3, 18), 4);
    }

    private static void withoutChangesNothing() {
        CertaintyChainer x = cycleOfTwo();
        x.rule(0, 80);
        addRule(x, 4, 100, ~1);
        x.premise(2, 0);
        for (int r = 0; r < 4; r++) {
            for (int c = 0; c < 16; c++) {
                x.without(c, r);
            }
            due("rules()", x.rules(), 4);
            due("headOf(2)", x.headOf(2), 0);
            due("certainty(1)", x.certainty(1), 80);
            due("certainty(4)", x.certainty(4), 20);
        }
        due("without(0, 4)", x.without(0, 4), -2);
        due("the strength stays", x.strengthen(2, 80), 80);
        due("the draft", x.clear(), 1);
        due("observed(0)", x.observed(0), 50);
    }

    private static void supporterLeast() {
        CertaintyChainer x = fresh();
        for (int r = 0; r < 20; r++) {
            x.rule(9, 60);
            due("the first of " + (r + 1), x.supporter(9), 0);
        }
        for (int r = 0; r < 19; r++) {
            x.strengthen(r, 59);
            due("those before give less", x.supporter(9), r + 1);
        }
        x.strengthen(0, 60);
        due("the first and the last", x.supporter(9), 0);
        x.remove(0);
        due("the last, moved down", x.supporter(9), 18);
        for (int c = 0; c < 16; c++) {
            due("each claim has its own", withRules(16).supporter(c), c);
        }
    }

    private static void supporterBadClaim() {
        CertaintyChainer x = withRules(20);
        for (int bad : BAD_CLAIMS) {
            due("supporter(" + bad + ")", x.supporter(bad), -1);
            due("supporter(" + bad + ") without rules", fresh().supporter(bad), -1);
        }
        due("supporter(0)", x.supporter(0), 16);
        due("supporter(15)", x.supporter(15), 15);
    }

    private static void supporterNone() {
        CertaintyChainer x = fresh();
        for (int c = 0; c < 16; c++) {
            due("no rules, claim " + c, x.supporter(c), -2);
        }
        x.observe(5, 60);
        due("observed alone", x.supporter(5), -2);
        x.rule(6, 60);
        due("a rule of another head", x.supporter(5), -2);
        x.rule(5, 59);
        due("a rule that gives one less", x.supporter(5), -2);
        x.strengthen(1, 60);
        due("a rule that gives as much", x.supporter(5), 1);
        x.remove(1);
        due("it was taken out", x.supporter(5), -2);
        addRule(x, 7, 100, 4);
        due("a rule that gives 0", x.supporter(7), -2);
    }

    private static void yieldValue() {
        CertaintyChainer x = fresh();
        addRule(x, 8, 99, 0, ~4);
        x.observe(0, 100);
        due("100 and the negation of 0", x.yield(0), 99);
        x.observe(4, 1);
        due("the negation of 1", x.yield(0), 98);
        x.observe(4, 100);
        due("the negation of 100", x.yield(0), 0);
        x.observe(4, 0);
        x.observe(0, 1);
        due("the quotient is 0", x.yield(0), 0);
        x.strengthen(0, 100);
        due("the quotient is 1", x.yield(0), 1);
        x.observe(8, 100);
        due("not the head's certainty", x.yield(0), 1);
        x.rule(0, 70);
        due("at the certainty of the premise, not its observed one", x.yield(0), 70);
        CertaintyChainer y = withRules(20);
        for (int r = 0; r < 20; r++) {
            due("rule " + r + " without premises", y.yield(r), r + 1);
        }
    }

    private static void yieldNoRule() {
        for (int count : new int[] {0, 1, 19, 20}) {
            CertaintyChainer x = withRules(count);
            for (int bad : noRules(count)) {
                if (bad < 0 || bad >= count) {
                    due("yield(" + bad + ") of " + count, x.yield(bad), -1);
                }
            }
        }
        CertaintyChainer y = withRules(20);
        y.remove(0);
        due("a number that is not there any more", y.yield(19), -1);
        due("the last one", y.yield(18), 20);
    }

    private static void atLeastCount() {
        CertaintyChainer x = fresh();
        for (int c = 0; c < 16; c++) {
            x.observe(c, 100 - 6 * c);
        }
        for (int c = 0; c < 16; c++) {
            due("equal to claim " + c, x.atLeast(100 - 6 * c), c + 1);
            due("one above claim " + c, x.atLeast(101 - 6 * c), c);
        }
        CertaintyChainer y = fresh();
        y.observe(0, 50);
        addRule(y, 15, 100, 0);
        due("certainties, not only observed ones", y.atLeast(50), 2);
    }

    private static void atLeastAnyInt() {
        CertaintyChainer x = fresh();
        x.observe(3, 100);
        x.observe(15, 1);
        int[] bounds = {LOW, LOW + 1, -101, -100, -1, 0, 1, 2, 100, 101, 256, HIGH - 1, HIGH};
        int[] counts = {16, 16, 16, 16, 16, 16, 2, 1, 1, 0, 0, 0, 0};
        for (int i = 0; i < bounds.length; i++) {
            due("atLeast(" + bounds[i] + ")", x.atLeast(bounds[i]), counts[i]);
        }
    }

    private static void strongestLeastClaim() {
        CertaintyChainer x = fresh();
        due("all are 0", x.strongest(0, 15), 0);
        due("all are 0", x.strongest(7, 15), 7);
        for (int c = 15; c >= 0; c--) {
            x.observe(c, 60);
            due("those from " + c + " on are equal", x.strongest(0, 15), c);
        }
        x.rule(15, 61);
        due("one more", x.strongest(0, 15), 15);
        x.rule(4, 61);
        due("as much", x.strongest(0, 15), 4);
        x.observe(4, 100);
        due("100", x.strongest(0, 15), 4);
    }

    private static void strongestEnds() {
        CertaintyChainer x = fresh();
        for (int c = 0; c < 16; c++) {
            due("one claim alone", x.strongest(c, c), c);
        }
        x.observe(5, 90);
        x.observe(6, 80);
        x.observe(10, 80);
        x.observe(11, 90);
        due("both ends are outside", x.strongest(6, 10), 6);
        due("the last end is in", x.strongest(6, 11), 11);
        due("the first end is in", x.strongest(5, 10), 5);
        due("both ends are in", x.strongest(5, 11), 5);
        due("two claims", x.strongest(10, 11), 11);
        due("after them", x.strongest(12, 15), 12);
        due("before them", x.strongest(0, 4), 0);
        x.observe(15, 100);
        x.observe(0, 99);
        due("the very last claim", x.strongest(0, 15), 15);
        due("the very first claim", x.strongest(0, 14), 0);
    }

    private static void strongestBadClaim() {
        CertaintyChainer x = fresh();
        for (int bad : BAD_CLAIMS) {
            due("strongest(" + bad + ", 0)", x.strongest(bad, 0), -1);
            due("strongest(" + bad + ", 15)", x.strongest(bad, 15), -1);
            due("strongest(0, " + bad + ")", x.strongest(0, bad), -1);
            due("strongest(15, " + bad + ")", x.strongest(15, bad), -1);
            due("strongest(" + bad + ", " + bad + ")", x.strongest(bad, bad), -1);
        }
        due("strongest(-1, 16)", x.strongest(-1, 16), -1);
        due("strongest(16, -1)", x.strongest(16, -1), -1);
        due("strongest(0, 15)", x.strongest(0, 15), 0);
    }

    private static void strongestCrossed() {
        CertaintyChainer x = fresh();
        for (int c = 0; c < 15; c++) {
            due("by one", x.strongest(c + 1, c), -2);
            due("the right way round", x.strongest(c, c + 1), c);
            due("equal", x.strongest(c, c), c);
        }
        due("by all", x.strongest(15, 0), -2);
    }

    private static void essentialCount() {
        CertaintyChainer x = fresh();
        due("no rules", x.essential(), 0);
        for (int c = 0; c < 16; c++) {
            x.rule(c, 1);
            due("each of " + (c + 1), x.essential(), c + 1);
        }
        for (int c = 0; c < 16; c++) {
            x.observe(c, 1);
            due("as much is observed", x.essential(), 15 - c);
        }
        CertaintyChainer y = fresh();
        for (int r = 0; r < 20; r++) {
            y.rule(r % 16, r < 16 ? 10 : 11);
        }
        due("20 rules, four of which give less than others", y.essential(), 16);
        CertaintyChainer z = fresh();
        addRule(z, 1, 100, 0);
        due("a rule that gives 0", z.essential(), 0);
        z.observe(0, 1);
        due("a rule that gives 1", z.essential(), 1);
        // One that lowers a claim above alone: its own head is changed as well, but counts once.
        addRule(z, 4, 100, ~1);
        addRule(z, 15, 100, ~4, ~1);
        due("rules that change several claims count once", z.essential(), 3);
    }

    private static void essentialAlone() {
        CertaintyChainer x = fresh();
        x.rule(0, 50);
        x.rule(0, 50);
        due("each stands in for the other", x.essential(), 0);
        x.remove(0);
        due("one alone", x.essential(), 1);
        x.rule(1, 50);
        due("both are back each time", x.essential(), 2);
        due("nothing was taken out", x.rules(), 2);
        CertaintyChainer y = fresh();
        for (int r = 0; r < 20; r++) {
            y.rule(5, 50);
        }
        due("any of 20 stands in", y.essential(), 0);
        y.strengthen(19, 51);
        due("the last alone", y.essential(), 1);
        y.strengthen(0, 52);
        due("the first alone", y.essential(), 1);
    }

    private static void influenceCount() {
        CertaintyChainer x = fresh();
        for (int c = 0; c < 16; c++) {
            due("observed 0, claim " + c, x.influence(c), 0);
        }
        x.observe(0, 1);
        due("the claim itself", x.influence(0), 1);
        for (int c = 1; c < 16; c++) {
            addRule(x, c, 100, 0);
            due("with " + c + " others", x.influence(0), c + 1);
        }
        due("claims that are observed 0", x.influence(15), 0);
        x.observe(15, 1);
        due("one has its own observed certainty", x.influence(0), 15);
        due("a rule gives as much", x.influence(15), 0);
        x.observe(15, 2);
        due("a rule gives less", x.influence(15), 1);
        x.rule(0, 1);
        due("a rule gives as much to the claim itself", x.influence(0), 0);
        due("nothing was changed", x.observed(0), 1);

        CertaintyChainer y = fresh();
        addRule(y, 4, 100, ~0);
        y.observe(0, 1);
        due("through a negation", y.influence(0), 2);
        due("in a cycle", cycleOfTwo().influence(0), 2);
        due("in a cycle", cycleOfTwo().influence(1), 0);
    }

    private static void influenceBadClaim() {
        CertaintyChainer x = withRules(20);
        for (int bad : BAD_CLAIMS) {
            due("influence(" + bad + ")", x.influence(bad), -1);
        }
        due("influence(0)", x.influence(0), 0);
        x.observe(15, 100);
        due("influence(15)", x.influence(15), 1);
    }
}
