/** One test method for each promise of the document: ordinary inputs, edges, wrong inputs. */
public final class PromisesTest {
    private static final int LOW = Integer.MIN_VALUE;
    private static final int HIGH = Integer.MAX_VALUE;
    private static final int[] BAD_CLAIMS = {-1, 16, 17, LOW, HIGH};
    private static final int[] BAD_STRENGTHS = {0, 101, -1, LOW, HIGH};
    private static final int[] BAD_CERTAINTIES = {-1, 101, LOW, HIGH};

    private static int wrong = 0;

    public static void main(String[] args) {
        newObject();
        premise();
        clear();
        rule();
        ruleLevels();
        ruleCapacity();
        remove();
        strengthen();
        observe();
        rules();
        headOf();
        observed();
        certainty();
        certaintyInCycles();
        certaintyThroughNegations();
        whatIf();
        without();
        supporter();
        yield_();
        atLeast();
        strongest();
        essential();
        influence();
        refusedCallsChangeNothing();
        System.out.println(wrong == 0 ? "all promises hold" : wrong + " answers are wrong");
        if (wrong != 0) {
            System.exit(1);
        }
    }

    private static void due(String what, int got, int want) {
        if (got != want) {
            wrong++;
            System.out.println(what + " answered " + got + ", due is " + want);
        }
    }

    /** A premise is given as its claim, or as ~claim for the negation. */
    private static int addRule(CertaintyChainer x, int head, int strength, int... premises) {
        for (int p : premises) {
            int put = p < 0 ? x.premise(~p, 1) : x.premise(p, 0);
            if (put < 1) {
                due("1: premise in addRule refused", put, 1);
            }
        }
        return x.rule(head, strength);
    }

    private static void newObject() {
        CertaintyChainer x = new CertaintyChainer();
        due("1: rules", x.rules(), 0);
        due("1: headOf(0)", x.headOf(0), -1);
        due("1: essential", x.essential(), 0);
        due("1: atLeast(1)", x.atLeast(1), 0);
        due("1: atLeast(0)", x.atLeast(0), 16);
        for (int c = 0; c < 16; c++) {
            due("1: observed(" + c + ")", x.observed(c), 0);
            due("1: certainty(" + c + ")", x.certainty(c), 0);
            due("1: supporter(" + c + ")", x.supporter(c), -2);
            due("1: influence(" + c + ")", x.influence(c), 0);
        }
        due("1: clear, the draft is empty", x.clear(), 0);

        CertaintyChainer y = new CertaintyChainer();
        x.observe(0, 50);
        x.rule(1, 50);
        x.premise(0, 0);
        due("1: another object's rules", y.rules(), 0);
        due("1: another object's observed", y.observed(0), 0);
        due("1: another object's draft", y.clear(), 0);
    }

    private static void premise() {
        CertaintyChainer x = new CertaintyChainer();
        for (int bad : BAD_CLAIMS) {
            due("2: premise(" + bad + ", 0)", x.premise(bad, 0), -1);
        }
        due("2: first", x.premise(0, 0), 1);
        due("2: second", x.premise(15, 0), 2);
        due("2: third, the same claim again", x.premise(0, 0), 3);
        due("2: fourth", x.premise(1, 0), -2);
        due("2: bad claim comes before full draft", x.premise(16, 0), -1);
        due("2: bad claim comes before full draft", x.premise(-1, 1), -1);
        due("2: still three", x.clear(), 3);

        for (int negated : new int[] {1, -1, 2, 256, LOW, HIGH}) {
            CertaintyChainer y = new CertaintyChainer();
            y.observe(0, 30);
            y.premise(0, negated);
            due("2: a negation of the same level", y.rule(1, 100), -3);
            y.rule(4, 100);
            due("2: the value of a negation by " + negated, y.certainty(4), 70);
        }
        CertaintyChainer z = new CertaintyChainer();
        z.observe(0, 30);
        z.premise(0, 0);
        z.rule(4, 100);
        due("2: the value of a claim", z.certainty(4), 30);
    }

    private static void clear() {
        CertaintyChainer x = new CertaintyChainer();
        due("3: empty", x.clear(), 0);
        for (int n = 1; n <= 3; n++) {
            for (int i = 0; i < n; i++) {
                x.premise(i, 1);
            }
            due("3: had " + n, x.clear(), n);
            due("3: is empty now", x.clear(), 0);
        }
        due("3: puts from the start again", x.premise(2, 0), 1);
        x.clear();
        x.rule(4, 80);
        due("3: no cleared premise is in the rule", x.certainty(4), 80);
        x.premise(0, 0);
        x.rule(4, 10);
        due("3: a rule empties the draft", x.clear(), 0);
    }

    private static void rule() {
        CertaintyChainer x = new CertaintyChainer();
        x.premise(15, 0);
        for (int bad : BAD_CLAIMS) {
            due("4: rule(" + bad + ", 50)", x.rule(bad, 50), -1);
            due("4: bad head comes before bad strength", x.rule(bad, 0), -1);
        }
        for (int bad : BAD_STRENGTHS) {
            due("4: bad strength comes before a misfit", x.rule(0, bad), -2);
            due("4: rule(15, " + bad + ")", x.rule(15, bad), -2);
        }
        due("4: misfit", x.rule(0, 50), -3);
        due("4: the draft stays after refusals", x.premise(15, 0), 2);
        due("4: no rule was put", x.rules(), 0);
        due("4: strength 1", x.rule(15, 1), 0);
        due("4: strength 100", x.rule(0, 100), 1);
        due("4: rules", x.rules(), 2);
        x.observe(15, 100);
        due("4: the first has the premises", x.yield(0), 1);
        due("4: the second has none", x.yield(1), 100);

        CertaintyChainer y = new CertaintyChainer();
        y.observe(0, 90);
        y.observe(1, 80);
        y.observe(2, 70);
        addRule(y, 3, 100, 0, 1, 2);
        due("4: the third premise counts", y.yield(0), 70);
        y.observe(2, 99);
        due("4: the second premise counts", y.yield(0), 80);
        y.observe(1, 99);
        due("4: the first premise counts", y.yield(0), 90);
        addRule(y, 3, 100, 0);
        due("4: a rule shorter than the one before", y.yield(1), 90);
    }

    private static void ruleLevels() {
        for (int head = 0; head < 16; head++) {
            for (int claim = 0; claim < 16; claim++) {
                boolean claimFits = claim / 4 <= head / 4;
                boolean negationFits = claim / 4 < head / 4;
                String which = "4: claim " + claim + ", head " + head;
                due(which, addRule(new CertaintyChainer(), head, 1, claim), claimFits ? 0 : -3);
                due(which + ", negated", addRule(new CertaintyChainer(), head, 1, ~claim), negationFits ? 0 : -3);
                if (head >= 4) {
                    due(which + ", second", addRule(new CertaintyChainer(), head, 1, 0, claim), claimFits ? 0 : -3);
                    due(which + ", third and negated",
                            addRule(new CertaintyChainer(), head, 1, 0, ~1, ~claim), negationFits ? 0 : -3);
                    due(which + ", first and negated",
                            addRule(new CertaintyChainer(), head, 1, ~claim, 0, ~1), negationFits ? 0 : -3);
                }
            }
        }
    }

    private static void ruleCapacity() {
        CertaintyChainer x = new CertaintyChainer();
        for (int r = 0; r < 20; r++) {
            due("4: rule " + r, addRule(x, 12 + r % 4, 5 * r + 1, ~0, 12, ~11), r);
        }
        due("4: 21st rule", x.rule(0, 50), -4);
        x.premise(3, 0);
        x.premise(4, 1);
        due("4: 21st rule with premises", x.rule(8, 50), -4);
        due("4: bad head comes before the full list", x.rule(16, 50), -1);
        due("4: bad strength comes before the full list", x.rule(8, 101), -2);
        due("4: a misfit comes before the full list", x.rule(7, 50), -3);
        due("4: still 20 rules", x.rules(), 20);
        due("4: the last rule", x.headOf(19), 15);
        due("4: room again", x.remove(0), 19);
        due("4: the draft stayed", x.rule(8, 50), 19);
        due("4: the draft went into the rule", x.clear(), 0);
        x.observe(3, 60);
        x.observe(4, 20);
        due("4: the premises of the last rule", x.yield(19), 30);
    }

    private static void remove() {
        CertaintyChainer x = new CertaintyChainer();
        due("5: remove(0) of none", x.remove(0), -1);
        x.observe(0, 60);
        x.observe(1, 25);
        x.rule(4, 10);
        addRule(x, 5, 50, 0);
        addRule(x, 6, 100, ~0, ~1);
        addRule(x, 7, 100, 0, 1, 0);
        for (int bad : new int[] {-1, 4, 19, 20, 21, LOW, HIGH}) {
            due("5: remove(" + bad + ")", x.remove(bad), -1);
        }
        due("5: nothing was taken out", x.rules(), 4);
        due("5: remove(1)", x.remove(1), 3);
        int[] heads = {4, 6, 7};
        int[] yields = {10, 40, 25};
        for (int r = 0; r < 3; r++) {
            due("5: headOf(" + r + ")", x.headOf(r), heads[r]);
            due("5: yield(" + r + ")", x.yield(r), yields[r]);
        }
        due("5: its head is not raised any more", x.certainty(5), 0);
        due("5: the old last number", x.remove(3), -1);
        due("5: remove the first", x.remove(0), 2);
        due("5: moved down", x.headOf(0), 6);
        due("5: moved down", x.yield(1), 25);
        due("5: remove the last", x.remove(1), 1);
        due("5: the first stays", x.yield(0), 40);
        due("5: remove the only one", x.remove(0), 0);
        due("5: none are left", x.remove(0), -1);
        due("5: a new one has number 0", x.rule(3, 9), 0);
        due("5: observations stay", x.observed(0), 60);
        x.premise(1, 0);
        x.remove(0);
        due("5: the draft stays", x.clear(), 1);

        CertaintyChainer y = new CertaintyChainer();
        y.observe(0, 90);
        y.observe(1, 30);
        y.observe(2, 60);
        y.rule(4, 1);
        addRule(y, 5, 100, 0, ~1, 2);
        y.remove(0);
        due("5: the premises move down", y.yield(0), 60);
        y.observe(1, 80);
        due("5: the negation in the middle moves down", y.yield(0), 20);
        y.observe(1, 0);
        y.observe(2, 100);
        due("5: the first premise moves down", y.yield(0), 90);
    }

    private static void strengthen() {
        CertaintyChainer x = new CertaintyChainer();
        due("6: no rule", x.strengthen(0, 50), -1);
        x.rule(1, 30);
        x.rule(2, 40);
        for (int bad : new int[] {-1, 2, 20, LOW, HIGH}) {
            due("6: strengthen(" + bad + ", 50)", x.strengthen(bad, 50), -1);
            due("6: no such rule comes before bad strength", x.strengthen(bad, 0), -1);
        }
        for (int bad : BAD_STRENGTHS) {
            due("6: strengthen(1, " + bad + ")", x.strengthen(1, bad), -2);
        }
        due("6: the one before", x.strengthen(1, 100), 40);
        due("6: stronger", x.certainty(2), 100);
        due("6: the one before", x.strengthen(1, 1), 100);
        due("6: weaker", x.certainty(2), 1);
        due("6: the same", x.strengthen(1, 1), 1);
        due("6: the other rule", x.certainty(1), 30);
        due("6: the other rule", x.strengthen(0, 31), 30);
    }

    private static void observe() {
        CertaintyChainer x = new CertaintyChainer();
        for (int bad : BAD_CLAIMS) {
            due("7: observe(" + bad + ", 50)", x.observe(bad, 50), -1);
            due("7: bad claim comes before bad certainty", x.observe(bad, 101), -1);
        }
        for (int bad : BAD_CERTAINTIES) {
            due("7: observe(3, " + bad + ")", x.observe(3, bad), -2);
        }
        due("7: at first", x.observe(3, 100), 0);
        due("7: the one before", x.observe(3, 0), 100);
        due("7: the one before", x.observe(3, 55), 0);
        due("7: kept", x.observed(3), 55);
        due("7: after a refusal", x.observe(3, 101), -2);
        due("7: after a refusal", x.observed(3), 55);
        x.rule(5, 70);
        due("7: the observed one before, not the certainty", x.observe(5, 20), 0);
        due("7: the observed one before, not the certainty", x.observe(5, 30), 20);
        for (int c = 0; c < 16; c++) {
            x.observe(c, c + 1);
        }
        for (int c = 0; c < 16; c++) {
            due("7: each claim has its own", x.observe(c, 0), c + 1);
        }
    }

    private static void rules() {
        CertaintyChainer x = new CertaintyChainer();
        for (int n = 1; n <= 20; n++) {
            x.rule(n % 16, n);
            due("8: after rule", x.rules(), n);
        }
        x.rule(0, 1);
        due("8: after a refused rule", x.rules(), 20);
        for (int n = 19; n >= 0; n--) {
            x.remove(n / 2);
            due("8: after remove", x.rules(), n);
        }
    }

    private static void headOf() {
        CertaintyChainer x = new CertaintyChainer();
        for (int r = 0; r < 16; r++) {
            due("9: not yet there", x.headOf(r), -1);
            x.rule(15 - r, 50);
            due("9: headOf(" + r + ")", x.headOf(r), 15 - r);
        }
        for (int bad : new int[] {-1, 16, 19, 20, LOW, HIGH}) {
            due("9: headOf(" + bad + ")", x.headOf(bad), -1);
        }
        x.remove(15);
        due("9: taken out", x.headOf(15), -1);
        x.remove(0);
        due("9: moved down", x.headOf(0), 14);
    }

    private static void observed() {
        CertaintyChainer x = new CertaintyChainer();
        for (int bad : BAD_CLAIMS) {
            due("10: observed(" + bad + ")", x.observed(bad), -1);
        }
        x.observe(0, 7);
        x.observe(15, 100);
        x.rule(0, 90);
        due("10: not the certainty", x.observed(0), 7);
        due("10: the last claim", x.observed(15), 100);
        due("10: not observed", x.observed(14), 0);
    }

    private static void certainty() {
        CertaintyChainer x = new CertaintyChainer();
        for (int bad : BAD_CLAIMS) {
            due("11: certainty(" + bad + ")", x.certainty(bad), -1);
        }
        x.observe(0, 100);
        x.observe(15, 42);
        due("11: observed", x.certainty(0), 100);
        due("11: observed", x.certainty(15), 42);
        x.observe(1, 99);
        addRule(x, 2, 99, 1);
        due("11: whole quotient", x.certainty(2), 98);
        addRule(x, 3, 1, 1);
        due("11: whole quotient 0", x.certainty(3), 0);
        x.rule(4, 33);
        x.rule(4, 66);
        x.rule(4, 50);
        due("11: the greatest of rules without premises", x.certainty(4), 66);
        x.observe(4, 67);
        due("11: the observed one is greater", x.certainty(4), 67);

        CertaintyChainer y = new CertaintyChainer();
        addRule(y, 3, 90, 2);
        addRule(y, 2, 90, 1);
        addRule(y, 1, 90, 0);
        y.rule(0, 90);
        due("11: a chain against the order of the rules", y.certainty(3), 64);
        CertaintyChainer z = new CertaintyChainer();
        z.rule(3, 90);
        addRule(z, 2, 90, 3);
        addRule(z, 1, 90, 2);
        addRule(z, 0, 90, 1);
        due("11: a chain against the order of the claims", z.certainty(0), 64);
        due("11: in the middle", z.certainty(1), 72);
    }

    private static void certaintyInCycles() {
        CertaintyChainer x = new CertaintyChainer();
        addRule(x, 4, 100, 5);
        addRule(x, 5, 100, 4);
        addRule(x, 6, 100, 6);
        due("11: a cycle without ground", x.certainty(4), 0);
        due("11: a claim on itself alone", x.certainty(6), 0);
        x.observe(5, 37);
        due("11: a cycle with ground", x.certainty(4), 37);
        due("11: a cycle with ground", x.certainty(5), 37);
        x.observe(5, 0);
        due("11: nothing of it stays", x.certainty(4), 0);
        x.rule(6, 12);
        due("11: a claim on itself with ground", x.certainty(6), 12);
        addRule(x, 4, 100, 5, 6);
        addRule(x, 7, 100, 4, 5);
        due("11: a conjunction in a cycle", x.certainty(7), 0);
        x.observe(4, 20);
        due("11: a conjunction in a cycle", x.certainty(7), 20);
    }

    private static void certaintyThroughNegations() {
        CertaintyChainer x = new CertaintyChainer();
        addRule(x, 12, 100, ~8);
        addRule(x, 8, 100, ~4);
        addRule(x, 4, 100, ~0);
        due("11: negation of 0", x.certainty(4), 100);
        due("11: negation of 100", x.certainty(8), 0);
        due("11: three negations", x.certainty(12), 100);
        x.rule(0, 30);
        due("11: level 1", x.certainty(4), 70);
        due("11: level 2", x.certainty(8), 30);
        due("11: level 3", x.certainty(12), 70);
        addRule(x, 13, 50, ~8, 12, ~0);
        due("11: negations and a claim", x.certainty(13), 35);
        // The negated claim's own cycle must have settled before the negation is taken.
        CertaintyChainer y = new CertaintyChainer();
        addRule(y, 4, 100, ~3);
        addRule(y, 3, 100, 2);
        addRule(y, 2, 100, 1);
        addRule(y, 1, 100, 0);
        y.observe(0, 90);
        due("11: after the lower level has settled", y.certainty(4), 10);
        addRule(y, 5, 100, ~3, 3);
        due("11: a claim and its negation", y.certainty(5), 10);
    }

    private static void whatIf() {
        CertaintyChainer x = new CertaintyChainer();
        addRule(x, 1, 50, 0);
        addRule(x, 4, 100, ~1);
        x.observe(0, 40);
        for (int bad : BAD_CLAIMS) {
            due("12: bad claim", x.whatIf(bad, 0, 50), -1);
            due("12: bad other", x.whatIf(0, bad, 50), -1);
            due("12: bad claim comes before bad value", x.whatIf(bad, 0, 101), -1);
            due("12: bad other comes before bad value", x.whatIf(0, bad, -1), -1);
        }
        for (int bad : BAD_CERTAINTIES) {
            due("12: bad value", x.whatIf(1, 0, bad), -2);
        }
        due("12: of another", x.whatIf(1, 0, 90), 45);
        due("12: of another through a negation", x.whatIf(4, 0, 90), 55);
        due("12: less", x.whatIf(1, 0, 0), 0);
        due("12: most", x.whatIf(1, 0, 100), 50);
        due("12: of itself", x.whatIf(0, 0, 77), 77);
        due("12: of itself below its rule", x.whatIf(1, 1, 10), 20);
        due("12: of itself above its rule", x.whatIf(1, 1, 60), 60);
        due("12: not in reach", x.whatIf(0, 1, 100), 40);
        due("12: nothing is changed", x.observed(0), 40);
        due("12: nothing is changed", x.observed(1), 0);
        due("12: nothing is changed", x.certainty(4), 80);
        due("12: the last claim", x.whatIf(15, 15, 100), 100);
    }

    private static void without() {
        CertaintyChainer x = new CertaintyChainer();
        due("13: no rules", x.without(0, 0), -2);
        addRule(x, 1, 50, 0);
        x.rule(0, 80);
        addRule(x, 4, 100, ~1);
        x.rule(0, 60);
        for (int bad : BAD_CLAIMS) {
            due("13: bad claim", x.without(bad, 0), -1);
            due("13: bad claim comes before no such rule", x.without(bad, 4), -1);
        }
        for (int bad : new int[] {-1, 4, 20, LOW, HIGH}) {
            due("13: without(0, " + bad + ")", x.without(0, bad), -2);
        }
        due("13: as it is", x.certainty(4), 60);
        due("13: the second best stays", x.without(0, 1), 60);
        due("13: a further claim", x.without(1, 1), 30);
        due("13: through a negation", x.without(4, 1), 70);
        due("13: the first rule", x.without(1, 0), 0);
        due("13: the first rule", x.without(4, 0), 100);
        due("13: the last rule is not needed", x.without(4, 3), 60);
        due("13: another claim", x.without(0, 2), 80);
        due("13: nothing is changed", x.rules(), 4);
        due("13: nothing is changed", x.certainty(4), 60);

        CertaintyChainer y = new CertaintyChainer();
        y.rule(0, 70);
        addRule(y, 1, 100, 0);
        addRule(y, 0, 100, 1);
        due("13: a cycle does not hold itself up", y.without(1, 0), 0);
        due("13: the cycle's own rule is not needed", y.without(1, 2), 70);
    }

    private static void supporter() {
        CertaintyChainer x = new CertaintyChainer();
        for (int bad : BAD_CLAIMS) {
            due("14: supporter(" + bad + ")", x.supporter(bad), -1);
        }
        x.observe(0, 50);
        due("14: observed alone", x.supporter(0), -2);
        x.rule(0, 49);
        due("14: a rule below the observed one", x.supporter(0), -2);
        x.rule(0, 50);
        due("14: a rule equal to the observed one", x.supporter(0), 1);
        x.rule(0, 50);
        due("14: the least of two", x.supporter(0), 1);
        x.rule(0, 51);
        due("14: the greatest", x.supporter(0), 3);
        addRule(x, 1, 100, 2);
        due("14: a rule that gives 0 does not support", x.supporter(1), -2);
        x.rule(2, 51);
        due("14: a rule of another head does not support", x.supporter(2), 5);
        due("14: a rule in a chain", x.supporter(1), 4);
        x.rule(15, 1);
        due("14: certainty 1", x.supporter(15), 6);
        x.rule(14, 1);
        due("14: another head with the same certainty", x.supporter(14), 7);

        CertaintyChainer y = new CertaintyChainer();
        y.observe(3, 40);
        y.rule(3, 40);
        y.remove(0);
        due("14: a rule that was taken out does not support", y.supporter(3), -2);
        for (int r = 0; r < 20; r++) {
            y.rule(3, r < 19 ? 39 : 41);
        }
        due("14: the last of twenty", y.supporter(3), 19);
        due("14: none of twenty", y.supporter(4), -2);
    }

    private static void yield_() {
        CertaintyChainer x = new CertaintyChainer();
        due("15: no rules", x.yield(0), -1);
        x.rule(0, 64);
        addRule(x, 1, 50, 0);
        addRule(x, 4, 99, ~1);
        addRule(x, 4, 33, ~0, 1);
        addRule(x, 5, 100, 6);
        x.observe(1, 41);
        due("15: no premise", x.yield(0), 64);
        due("15: below the head's certainty", x.yield(1), 32);
        due("15: a negation, at the certainty", x.yield(2), 58);
        due("15: the least premise", x.yield(3), 11);
        due("15: zero", x.yield(4), 0);
        for (int bad : new int[] {-1, 5, 20, LOW, HIGH}) {
            due("15: yield(" + bad + ")", x.yield(bad), -1);
        }
        x.strengthen(0, 100);
        due("15: strength 100", x.yield(0), 100);
        due("15: a negation of 50", x.yield(2), 49);
    }

    private static void atLeast() {
        CertaintyChainer x = new CertaintyChainer();
        x.observe(0, 100);
        x.observe(15, 1);
        addRule(x, 1, 50, 0);
        due("16: least int", x.atLeast(LOW), 16);
        due("16: below 0", x.atLeast(-1), 16);
        due("16: 0", x.atLeast(0), 16);
        due("16: 1", x.atLeast(1), 3);
        due("16: 2", x.atLeast(2), 2);
        due("16: equal", x.atLeast(50), 2);
        due("16: just above", x.atLeast(51), 1);
        due("16: 100", x.atLeast(100), 1);
        due("16: 101", x.atLeast(101), 0);
        due("16: greatest int", x.atLeast(HIGH), 0);
    }

    private static void strongest() {
        CertaintyChainer x = new CertaintyChainer();
        for (int bad : BAD_CLAIMS) {
            due("17: bad first", x.strongest(bad, 3), -1);
            due("17: bad last", x.strongest(3, bad), -1);
            due("17: both bad", x.strongest(bad, bad), -1);
        }
        due("17: first > last", x.strongest(1, 0), -2);
        due("17: first > last", x.strongest(15, 14), -2);
        due("17: all equal", x.strongest(0, 15), 0);
        due("17: all equal", x.strongest(6, 15), 6);
        x.observe(3, 50);
        x.rule(9, 60);
        x.rule(12, 60);
        due("17: the least of the greatest", x.strongest(0, 15), 9);
        due("17: the last one counts", x.strongest(0, 9), 9);
        due("17: short of it", x.strongest(0, 8), 3);
        due("17: the first one counts", x.strongest(9, 15), 9);
        due("17: after it", x.strongest(10, 15), 12);
        due("17: one claim", x.strongest(5, 5), 5);
        due("17: one claim", x.strongest(15, 15), 15);
        due("17: one claim", x.strongest(0, 0), 0);
    }

    private static void essential() {
        CertaintyChainer x = new CertaintyChainer();
        due("18: no rules", x.essential(), 0);
        x.rule(0, 50);
        due("18: one", x.essential(), 1);
        x.rule(0, 50);
        due("18: each stands in for the other", x.essential(), 0);
        x.rule(0, 51);
        due("18: the greatest alone", x.essential(), 1);
        addRule(x, 15, 100, 0);
        due("18: the last claim counts", x.essential(), 2);
        addRule(x, 4, 100, ~0);
        due("18: a negation", x.essential(), 3);
        addRule(x, 5, 100, 6);
        due("18: a rule that gives 0", x.essential(), 3);
        x.observe(15, 51);
        due("18: as much is observed", x.essential(), 2);
        due("18: nothing is changed", x.rules(), 6);

        CertaintyChainer y = new CertaintyChainer();
        for (int r = 0; r < 20; r++) {
            addRule(y, r % 16, 90 - r % 16, r % 16 == 0 ? new int[0] : new int[] {r % 16 - 1});
        }
        due("18: twenty rules, four of them twice", y.essential(), 12);
    }

    private static void influence() {
        CertaintyChainer x = new CertaintyChainer();
        for (int bad : BAD_CLAIMS) {
            due("19: influence(" + bad + ")", x.influence(bad), -1);
        }
        x.observe(0, 60);
        due("19: itself", x.influence(0), 1);
        addRule(x, 1, 50, 0);
        addRule(x, 4, 100, ~1);
        addRule(x, 15, 100, 0);
        due("19: through rules and a negation", x.influence(0), 4);
        due("19: observed 0 already", x.influence(1), 0);
        x.observe(1, 30);
        due("19: a rule gives as much", x.influence(1), 0);
        due("19: what is observed elsewhere stays", x.influence(0), 2);
        x.observe(1, 31);
        due("19: a rule gives less", x.influence(1), 2);
        due("19: nothing is changed", x.observed(0), 60);

        CertaintyChainer y = new CertaintyChainer();
        addRule(y, 8, 100, 9);
        addRule(y, 9, 100, 8);
        y.observe(8, 5);
        due("19: a cycle does not hold itself up", y.influence(8), 2);
        due("19: a cycle does not hold itself up", y.influence(9), 0);
    }

    private static void refusedCallsChangeNothing() {
        CertaintyChainer x = new CertaintyChainer();
        x.observe(0, 60);
        x.rule(1, 40);
        addRule(x, 4, 90, ~0, 1);
        x.premise(0, 1);
        x.premise(1, 0);
        x.premise(2, 0);
        x.premise(16, 0);
        x.premise(3, 0);
        x.rule(16, 50);
        x.rule(5, 0);
        x.rule(0, 50);
        x.remove(2);
        x.remove(-1);
        x.strengthen(2, 50);
        x.strengthen(0, 101);
        x.observe(16, 50);
        x.observe(0, 101);
        x.observe(0, -1);
        x.whatIf(0, 0, 101);
        due("refused: rules", x.rules(), 2);
        due("refused: observed", x.observed(0), 60);
        due("refused: certainty", x.certainty(1), 40);
        due("refused: yield", x.yield(1), 36);
        due("refused: the draft", x.rule(5, 50), 2);
        x.observe(2, 39);
        due("refused: the draft's premises", x.yield(2), 19);
        due("refused: the draft", x.clear(), 0);
    }
}
