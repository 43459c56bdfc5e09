/** Certainties of claims from rules with conjunctions, negation and cycles. */
public final class CertaintyChainer {
    private static final int CLAIMS = 16;
    private static final int LEVELS = 4;
    private static final int LEVEL_SIZE = 4;
    private static final int FULL = 100;
    private static final int MOST_RULES = 20;
    private static final int MOST_PREMISES = 3;
    private static final int PREMISE_SLOTS = 60;

    // Every pass but the last raises one of a level's 4 claims by 1 or more, and none goes above 100.
    private static final int MOST_PASSES = 401;

    private static final int NO_RULE = -1;
    private static final int NO_CLAIM = -1;

    private final int[] observations = new int[CLAIMS];

    private int ruleCount = 0;
    private final int[] heads = new int[MOST_RULES];
    private final int[] strengths = new int[MOST_RULES];
    private final int[] premiseCounts = new int[MOST_RULES];
    // Rule r has its premises from slot r * MOST_PREMISES on.
    private final int[] premiseClaims = new int[PREMISE_SLOTS];
    private final boolean[] premiseNegations = new boolean[PREMISE_SLOTS];

    private int draftCount = 0;
    private final int[] draftClaims = new int[MOST_PREMISES];
    private final boolean[] draftNegations = new boolean[MOST_PREMISES];

    // Work space of the questions: each fills it anew, so nothing of it is state.
    private final int[] derived = new int[CLAIMS];
    private final int[] kept = new int[CLAIMS];

    public CertaintyChainer() {
    }

    public int premise(int claim, int negated) {
        if (!isClaim(claim)) {
            return -1;
        }
        if (draftCount >= MOST_PREMISES) {
            return -2;
        }
        draftClaims[draftCount] = claim;
        draftNegations[draftCount] = negated != 0;
        draftCount++;
        return draftCount;
    }

    public int clear() {
        int before = draftCount;
        draftCount = 0;
        return before;
    }

    public int rule(int head, int strength) {
        if (!isClaim(head)) {
            return -1;
        }
        if (!isStrength(strength)) {
            return -2;
        }
        if (!draftFits(head)) {
            return -3;
        }
        if (ruleCount >= MOST_RULES) {
            return -4;
        }
        int number = ruleCount;
        heads[number] = head;
        strengths[number] = strength;
        moveDraftTo(number);
        ruleCount++;
        return number;
    }

    public int remove(int rule) {
        if (!isRule(rule)) {
            return -1;
        }
        for (int r = rule; r + 1 < ruleCount; r++) {
            copyRuleDown(r);
        }
        ruleCount--;
        return ruleCount;
    }

    public int strengthen(int rule, int strength) {
        if (!isRule(rule)) {
            return -1;
        }
        if (!isStrength(strength)) {
            return -2;
        }
        int before = strengths[rule];
        strengths[rule] = strength;
        return before;
    }

    public int observe(int claim, int certainty) {
        if (!isClaim(claim)) {
            return -1;
        }
        if (!isCertainty(certainty)) {
            return -2;
        }
        int before = observations[claim];
        observations[claim] = certainty;
        return before;
    }

    public int rules() {
        return ruleCount;
    }

    public int headOf(int rule) {
        if (!isRule(rule)) {
            return -1;
        }
        return heads[rule];
    }

    public int observed(int claim) {
        if (!isClaim(claim)) {
            return -1;
        }
        return observations[claim];
    }

    public int certainty(int claim) {
        if (!isClaim(claim)) {
            return -1;
        }
        deriveAsIs();
        return derived[claim];
    }

    public int whatIf(int claim, int other, int value) {
        if (!isClaim(claim) || !isClaim(other)) {
            return -1;
        }
        if (!isCertainty(value)) {
            return -2;
        }
        derive(NO_RULE, other, value);
        return derived[claim];
    }

    public int without(int claim, int rule) {
        if (!isClaim(claim)) {
            return -1;
        }
        if (!isRule(rule)) {
            return -2;
        }
        derive(rule, NO_CLAIM, 0);
        return derived[claim];
    }

    public int supporter(int claim) {
        if (!isClaim(claim)) {
            return -1;
        }
        deriveAsIs();
        for (int r = 0; r < ruleCount; r++) {
            if (heads[r] == claim && derived[claim] > 0 && derivedYield(r) == derived[claim]) {
                return r;
            }
        }
        return -2;
    }

    public int yield(int rule) {
        if (!isRule(rule)) {
            return -1;
        }
        deriveAsIs();
        return derivedYield(rule);
    }

    public int atLeast(int bound) {
        deriveAsIs();
        int count = 0;
        for (int c = 0; c < CLAIMS; c++) {
            if (derived[c] >= bound) {
                count++;
            }
        }
        return count;
    }

    public int strongest(int first, int last) {
        if (!isClaim(first) || !isClaim(last)) {
            return -1;
        }
        if (first > last) {
            return -2;
        }
        deriveAsIs();
        int best = first;
        for (int c = first + 1; c <= last; c++) {
            if (derived[c] > derived[best]) {
                best = c;
            }
        }
        return best;
    }

    public int essential() {
        deriveAsIs();
        keepDerived();
        int count = 0;
        for (int r = 0; r < ruleCount; r++) {
            derive(r, NO_CLAIM, 0);
            if (countOtherThanKept() > 0) {
                count++;
            }
        }
        return count;
    }

    public int influence(int claim) {
        if (!isClaim(claim)) {
            return -1;
        }
        deriveAsIs();
        keepDerived();
        derive(NO_RULE, claim, 0);
        return countOtherThanKept();
    }

    private static boolean isClaim(int claim) {
        return claim >= 0 && claim < CLAIMS;
    }

    private static boolean isStrength(int strength) {
        return strength >= 1 && strength <= FULL;
    }

    private static boolean isCertainty(int certainty) {
        return certainty >= 0 && certainty <= FULL;
    }

    private static int levelOf(int claim) {
        return claim / LEVEL_SIZE;
    }

    private boolean isRule(int rule) {
        return rule >= 0 && rule < ruleCount;
    }

    private boolean draftFits(int head) {
        int headLevel = levelOf(head);
        for (int i = 0; i < draftCount; i++) {
            int level = levelOf(draftClaims[i]);
            if (level > headLevel || (draftNegations[i] && level == headLevel)) {
                return false;
            }
        }
        return true;
    }

    private void moveDraftTo(int rule) {
        int firstSlot = rule * MOST_PREMISES;
        for (int i = 0; i < draftCount; i++) {
            premiseClaims[firstSlot + i] = draftClaims[i];
            premiseNegations[firstSlot + i] = draftNegations[i];
        }
        premiseCounts[rule] = draftCount;
        draftCount = 0;
    }

    private void copyRuleDown(int rule) {
        heads[rule] = heads[rule + 1];
        strengths[rule] = strengths[rule + 1];
        premiseCounts[rule] = premiseCounts[rule + 1];
        int firstSlot = rule * MOST_PREMISES;
        for (int i = 0; i < MOST_PREMISES; i++) {
            premiseClaims[firstSlot + i] = premiseClaims[firstSlot + MOST_PREMISES + i];
            premiseNegations[firstSlot + i] = premiseNegations[firstSlot + MOST_PREMISES + i];
        }
    }

    private void deriveAsIs() {
        derive(NO_RULE, NO_CLAIM, 0);
    }

    private void derive(int leftOutRule, int assumedClaim, int assumedValue) {
        for (int c = 0; c < CLAIMS; c++) {
            derived[c] = c == assumedClaim ? assumedValue : observations[c];
        }
        // A negation is only right once the level below has settled for good.
        for (int level = 0; level < LEVELS; level++) {
            settleLevel(level, leftOutRule);
        }
    }

    private void settleLevel(int level, int leftOutRule) {
        boolean raised = true;
        for (int pass = 0; raised && pass < MOST_PASSES; pass++) {
            raised = raiseHeads(level, leftOutRule);
        }
    }

    private boolean raiseHeads(int level, int leftOutRule) {
        boolean raised = false;
        for (int r = 0; r < ruleCount; r++) {
            int head = heads[r];
            if (r == leftOutRule || levelOf(head) != level) {
                continue;
            }
            int least = derivedYield(r);
            if (derived[head] < least) {
                derived[head] = least;
                raised = true;
            }
        }
        return raised;
    }

    private int derivedYield(int rule) {
        int least = FULL;
        int firstSlot = rule * MOST_PREMISES;
        for (int i = 0; i < premiseCounts[rule]; i++) {
            int certainty = derived[premiseClaims[firstSlot + i]];
            int value = premiseNegations[firstSlot + i] ? FULL - certainty : certainty;
            if (value < least) {
                least = value;
            }
        }
        return least * strengths[rule] / FULL;
    }

    private void keepDerived() {
        for (int c = 0; c < CLAIMS; c++) {
            kept[c] = derived[c];
        }
    }

    private int countOtherThanKept() {
        int count = 0;
        for (int c = 0; c < CLAIMS; c++) {
            if (derived[c] != kept[c]) {
                count++;
            }
        }
        return count;
    }
}
