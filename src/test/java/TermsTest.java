/**
 * The sentences of 'What it is' and 'Terms' that name a bound, each with what lies on both sides of it.
 * The kinds of data sets have a test of their own, KindsTest.
 */
public final class TermsTest {
    private static final int BAD = Run.BAD;
    private static final int FULL = Run.FULL;
    private static final int MIN = Run.MIN;
    private static final int MAX = Run.MAX;

    public static void main(String[] args) {
        Sentences.holds("An object is used for at most 512 calls after it has been made", () -> {
            handHoldsForAllCalls();
            setsHoldForAllCalls();
            questionsHoldForAllCalls();
        });
        Sentences.holds("what later calls answer is free (but none may throw)", TermsTest::laterCallsEnd);
        pairs();
        dataSets();
        big();
        Sentences.holds("The pairs of a data set that is not big are numbered from 0 in the order by key, then by"
            + " value.", TermsTest::orderOfPairs);
        Sentences.holds("There are 4 WORKERS, 0 to 3, on which data sets may be KEPT; that shows in no answer.",
            TermsTest::keepingShowsNowhere);
        Sentences.end();
    }

    private static void handHoldsForAllCalls() {
        Run run = new Run();
        for (int round = 0; round < 20; round++) {
            run.hand(Run.same(24, round % 16, round));
            run.discard().is(24);
        }
        while (run.calls() < 511) {
            run.discard().is(0);
        }
        run.row(15, 15).is(1);
    }

    private static void setsHoldForAllCalls() {
        Run run = Run.of(Run.pairs(3, 7));
        for (int round = 0; round < 16; round++) {
            for (int d = 1; d < 16; d++) {
                run.derive(1, d - 1, 1, 1).is(d);
            }
            run.valueOf(15, 0).is(22);
            for (int left = 15; left > 0; left--) {
                run.drop().is(left);
            }
        }
        while (run.calls() < 511) {
            run.count(0).is(1);
        }
        run.valueOf(0, 0).is(7);
    }

    private static void questionsHoldForAllCalls() {
        for (int question = 0; question < 8; question++) {
            Run run = Run.of(Run.pairs(3, 7));
            while (run.calls() < 512) {
                switch (question) {
                    case 0 -> run.count(0).is(1);
                    case 1 -> run.total(0).is(7);
                    case 2 -> run.keyOf(0, 0).is(3);
                    case 3 -> run.valueOf(0, 0).is(7);
                    case 4 -> run.lookup(0, 3).is(7);
                    case 5 -> run.keep(0, true).is(true);
                    case 6 -> run.lose(3).is(true);
                    default -> run.level(1).is(true);
                }
            }
        }
    }

    private static void laterCallsEnd() {
        LineageEngine engine = new LineageEngine();
        int[] arguments = {MIN, -1, 0, 1, 3, 15, 16, 48, MAX};
        for (int call = 0; call < 20000; call++) {
            int first = arguments[call % 9];
            int second = arguments[call / 9 % 9];
            engine.row(first, second);
            engine.derive(call % 14 - 1, first, second, call);
            engine.count(first);
            engine.total(first);
            engine.keyOf(first, second);
            engine.valueOf(first, second);
            engine.lookup(first, second);
            engine.keep(first, call % 2 == 0);
            engine.lose(first);
            engine.level(first);
            if (call % 7 == 0) {
                engine.drop();
            }
            if (call % 31 == 0) {
                engine.discard();
            }
        }
    }

    private static void pairs() {
        Sentences.holds("A PAIR is a key from 0 to 15 ..", () -> {
            Run run = new Run();
            run.row(-1, 5).is(BAD);
            run.row(16, 5).is(BAD);
            for (int key = 15; key >= 0; key--) {
                run.row(key, 100 + key).is(16 - key);
            }
            run.derive(0, 0, 0, 0).is(0);
            run.count(0).is(16);
            for (int key = 0; key < 16; key++) {
                run.keyOf(0, key).is(key);
                run.valueOf(0, key).is(100 + key);
                run.lookup(0, key).is(100 + key);
            }
        });
        Sentences.holds(".. and a value, an int", () ->
            Run.of(Run.pairs(1, MIN, 2, -1, 3, 0, 4, 1, 5, MAX)).pairsAre(0, 1, MIN, 2, -1, 3, 0, 4, 1, 5, MAX));
        wrapArounds();
    }

    private static void wrapArounds() {
        Sentences.holds("(arithmetic wraps as in Java): value * a in kind 1", () -> {
            derived(Run.pairs(1, 1 << 30, 2, 1 << 16, 3, MIN), 1, 4, 0, 1, 0, 2, 1 << 18, 3, 0);
            derived(Run.pairs(1, MAX, 2, MIN), 1, 2, 0, 1, -2, 2, 0);
            derived(Run.pairs(1, MIN, 2, MAX), 1, -1, 0, 1, MIN, 2, -MAX);
            derived(Run.pairs(1, MAX), 1, MAX, 0, 1, 1);
            derived(Run.pairs(1, 65536), 1, 65536, 5, 1, 5);
        });
        Sentences.holds("(arithmetic wraps as in Java): + b in kind 1", () -> {
            derived(Run.pairs(1, MAX, 2, MAX - 1), 1, 1, 1, 1, MIN, 2, MAX);
            derived(Run.pairs(1, MIN, 2, MIN + 1), 1, 1, -1, 1, MAX, 2, MIN);
            derived(Run.pairs(1, MIN), 1, 1, MIN, 1, 0);
        });
        Sentences.holds("(arithmetic wraps as in Java): key * a + b in kind 3", () -> {
            derived(Run.pairs(15, 1), 3, MAX, MAX, 0, 1);
            derived(Run.pairs(15, 1, 2, 2), 3, MIN, MIN, 0, 1, 0, 2);
            derived(Run.pairs(2, 1), 3, 1 << 30, MAX, 15, 1);
            derived(Run.pairs(3, 1), 3, 0x7ffffff5, 9, 8, 1);
        });
        Sentences.holds("(arithmetic wraps as in Java): the sum in kind 6", () -> {
            derived(Run.pairs(1, MAX, 1, 1, 2, MIN, 2, -1), 6, 0, 0, 1, MIN, 2, MAX);
            derived(Run.pairs(1, MIN, 1, MIN), 6, 0, 0, 1, 0);
        });
        Sentences.holds("(arithmetic wraps as in Java): the sum of the two values in kind 7", () ->
            derived(Run.pairs(1, MAX, 2, MIN), 7, 0, 0, 1, -2, 2, 0));
        Sentences.holds("(arithmetic wraps as in Java): total and lookup", () -> {
            Run run = Run.of(Run.pairs(1, MAX, 1, 1, 2, MAX), Run.pairs(3, MIN, 3, -1));
            run.total(0).is(-1);
            run.lookup(0, 1).is(MIN);
            run.total(1).is(MAX);
            run.lookup(1, 3).is(MAX);
        });
    }

    private static void dataSets() {
        Sentences.holds("A DATA SET is a multiset of pairs (a pair may be in it several times)", () -> {
            Run.of(Run.same(24, 15, -3)).pairsAre(0, Run.same(24, 15, -3));
            Run.of(Run.pairs(4, 1, 5, 1, 4, 1)).pairsAre(0, 4, 1, 4, 1, 5, 1);
        });
        Sentences.holds("numbered from 0, at most 16", () -> {
            Run run = new Run();
            for (int d = 0; d < 16; d++) {
                run.count(d).is(BAD);
                run.row(d, d).is(1);
                run.derive(0, 0, 0, 0).is(d);
            }
            run.derive(0, 0, 0, 0).is(FULL);
            run.count(16).is(BAD);
            for (int d = 0; d < 16; d++) {
                run.count(d).is(1);
                run.keyOf(d, 0).is(d);
                run.valueOf(d, 0).is(d);
            }
        });
        Sentences.holds("what it is made of never changes", TermsTest::setsNeverChange);
    }

    private static void setsNeverChange() {
        Run run = Run.of(Run.pairs(1, 10, 2, 20));
        run.derive(1, 0, 2, 0).is(1);
        run.hand(9, 9);
        run.pairsAre(1, 1, 20, 2, 40);
        run.discard().is(1);
        for (int kind = 1; kind <= 11; kind++) {
            run.derive(kind, 0, 1, 1).is(2);
            run.drop().is(2);
        }
        run.pairsAre(0, 1, 10, 2, 20);
        run.pairsAre(1, 1, 20, 2, 40);
        // Number 1 comes to be another data set, and what is made of number 1 then is made of that one.
        run.derive(5, 1, 1, 0).is(2);
        run.drop().is(2);
        run.drop().is(1);
        run.set(7, 7);
        run.derive(5, 1, 1, 0).is(2);
        run.pairsAre(0, 1, 10, 2, 20);
        run.pairsAre(1, 7, 7);
        run.pairsAre(2, 7, 7, 7, 7);
    }

    private static void big() {
        Sentences.holds("A data set is BIG iff it has more than 48 pairs ..: 48 and more by kind 4", () -> {
            repeated(16, 3, 48);
            repeated(17, 3, 51);
            repeated(24, 2, 48);
            repeated(24, 3, 72);
        });
        Sentences.holds("A data set is BIG iff it has more than 48 pairs ..: 48 and 49 by kind 5", () -> {
            together(0, 48);
            together(48, 0);
            together(1, 47);
            together(47, 1);
            together(48, 1);
            together(1, 48);
            together(48, 48);
        });
        Sentences.holds("A data set is BIG iff it has more than 48 pairs ..: 48 and 49 by kind 7", () -> {
            joined(6, 8);
            joined(8, 6);
            joined(2, 24);
            joined(7, 7);
            joined(5, 10);
            joined(24, 24);
        });
        Sentences.holds("A data set is BIG iff it has more than 48 pairs ..: wherever the last pair stands", () -> {
            bigWith(0, MIN);
            bigWith(8, 1);
            bigWith(15, MAX);
        });
        Sentences.holds("A data set is BIG iff it .. is made of a big one: as x, in every kind", () -> {
            for (int kind = 1; kind <= 11; kind++) {
                madeOfBig(kind, 3, Run.takesTwoSets(kind) ? 0 : 1, 0);
            }
        });
        Sentences.holds("A data set is BIG iff it .. is made of a big one: as a, in kinds 5, 7 and 9", () -> {
            for (int kind = 5; kind <= 9; kind += 2) {
                madeOfBig(kind, 0, 3, 0);
                madeOfBig(kind, 1, 3, 0);
                madeOfBig(kind, 3, 3, 0);
            }
        });
        Sentences.holds("A data set is BIG iff it .. is made of a big one: though it has few pairs or none", () -> {
            madeOfBig(2, 3, MAX, 0);
            madeOfBig(4, 3, 0, 0);
            madeOfBig(5, 3, 4, 0);
            madeOfBig(5, 4, 3, 0);
            madeOfBig(6, 3, 3, 0);
            madeOfBig(7, 3, 4, 0);
            madeOfBig(7, 4, 3, 0);
            madeOfBig(8, 3, 0, 0);
            madeOfBig(9, 4, 3, 0);
            madeOfBig(10, 3, 8, 0);
        });
        Sentences.holds("A data set is BIG iff ..: not by an operand that the kind does not have",
            TermsTest::notMadeOfBig);
        Sentences.holds("A data set is BIG iff ..: not by the number of a big one that is gone", () -> {
            Run run = withBig();
            run.drop().is(4);
            run.drop().is(3);
            run.derive(8, 2, 0, 0).is(3);
            run.pairsAre(3, 1, 7);
            run.derive(5, 3, 0, 0).is(4);
            run.pairsAre(4, 1, 7, 5, 6);
        });
    }

    private static void repeated(int size, int times, int due) {
        Run run = Run.of(Run.same(size, 1, 7));
        run.derive(4, 0, times, 0).is(1);
        sizeIs(run, 1, due);
    }

    /** Kind 5 of two data sets of these sizes, up to 48 each. */
    private static void together(int size, int otherSize) {
        Run run = new Run();
        run.set(Run.same(size - size / 2, 1, 7)).set(Run.same(size / 2, 2, 7));
        run.set(Run.same(otherSize - otherSize / 2, 1, 5)).set(Run.same(otherSize / 2, 3, 5));
        run.derive(5, 0, 1, 0).is(4);
        run.derive(5, 2, 3, 0).is(5);
        sizeIs(run, 4, size);
        sizeIs(run, 5, otherSize);
        run.derive(5, 4, 5, 0).is(6);
        sizeIs(run, 6, size + otherSize);
    }

    private static void joined(int size, int otherSize) {
        Run run = Run.of(Run.same(size, 1, 7), Run.same(otherSize, 1, 5));
        run.derive(7, 0, 1, 0).is(2);
        sizeIs(run, 2, size * otherSize);
    }

    private static void sizeIs(Run run, int d, int size) {
        if (size > 48) {
            run.isBig(d);
            return;
        }
        run.count(d).is(size);
        run.keyOf(d, size).is(BAD);
        if (size > 0) {
            run.keyOf(d, 0).is(1);
        }
    }

    private static void bigWith(int key, int value) {
        Run run = Run.of(Run.same(24, 8, 1), Run.pairs(key, value));
        run.derive(4, 0, 2, 0).is(2);
        run.derive(5, 2, 1, 0).is(3);
        run.derive(5, 1, 2, 0).is(4);
        run.count(2).is(48);
        run.isBig(3);
        run.isBig(4);
    }

    /** Data set 0 has one pair, 1 has 16, 2 has 48, 3 is big (it has 49), and 4 has none. */
    private static Run withBig() {
        Run run = Run.of(Run.pairs(5, 6), Run.same(16, 1, 7));
        run.derive(4, 1, 3, 0).is(2);
        run.derive(5, 2, 0, 0).is(3);
        run.set();
        run.count(2).is(48);
        run.isBig(3);
        return run;
    }

    private static void madeOfBig(int kind, int x, int a, int b) {
        Run run = withBig();
        run.derive(kind, x, a, b).is(5);
        run.isBig(5);
        run.derive(10, 5, 1, 0).is(6);
        run.isBig(6);
    }

    private static void notMadeOfBig() {
        Run run = withBig();
        run.derive(0, 3, 3, 3).is(5);
        run.pairsAre(5);
        for (int kind : new int[] {1, 2, 3, 4, 6, 8, 10, 11}) {
            run.derive(kind, 0, 3, 3).is(6);
            run.count(6).is(kind == 4 ? 3 : 1);
            run.drop().is(6);
        }
        for (int kind = 5; kind <= 9; kind += 2) {
            run.derive(kind, 0, 4, 3).is(6);
            run.count(6).is(kind == 7 ? 0 : 1);
            run.drop().is(6);
        }
    }

    private static void orderOfPairs() {
        Run.of(Run.pairs(2, 5, 1, 9, 2, -5, 0, 1, 1, -9)).pairsAre(0, 0, 1, 1, -9, 1, 9, 2, -5, 2, 5);
        // Values so far from each other that their difference is no int.
        Run.of(Run.pairs(3, MAX, 3, MIN, 3, 1, 3, -2, 3, 0)).pairsAre(0, 3, MIN, 3, -2, 3, 0, 3, 1, 3, MAX);
        Run.of(Run.pairs(15, MIN, 0, MAX)).pairsAre(0, 0, MAX, 15, MIN);
        derived(Run.pairs(1, 1, 1, 2, 2, 1, 2, 2), 1, -1, 0, 1, -2, 1, -1, 2, -2, 2, -1);
        derived(Run.pairs(1, 1, 1, 2, 2, 0), 3, -1, 0, 14, 0, 15, 1, 15, 2);
        derived(Run.pairs(1, 2, 2, 1, 3, 2, 4, 1), 11, 0, 0, 1, 2, 1, 4, 2, 1, 2, 3);
        Run run = Run.of(Run.pairs(1, 5, 3, 5), Run.pairs(1, 4, 2, 4, 3, 6));
        run.derive(5, 0, 1, 0).is(2);
        run.pairsAre(2, 1, 4, 1, 5, 2, 4, 3, 5, 3, 6);
        run.derive(7, 0, 2, 0).is(3);
        run.pairsAre(3, 1, 9, 1, 10, 3, 10, 3, 11);
    }

    private static void keepingShowsNowhere() {
        for (int kind = 1; kind <= 11; kind++) {
            keepingShowsNotIn(kind);
        }
        keepingEndsWithTheSet();
    }

    private static void keepingShowsNotIn(int kind) {
        Run plain = Run.of(Run.pairs(1, 2, 1, 7, 1, 7, 4, -3));
        plain.derive(kind, 0, Run.takesTwoSets(kind) ? 0 : 2, 1).is(1);
        Run kept = Run.of(Run.pairs(1, 2, 1, 7, 1, 7, 4, -3));
        kept.keep(0, true).is(true);
        kept.derive(kind, 0, Run.takesTwoSets(kind) ? 0 : 2, 1).is(1);
        kept.keep(1, true).is(true);
        asWithout(plain, kept);
        for (int w = 0; w < 4; w++) {
            kept.lose(w).is(true);
            asWithout(plain, kept);
        }
        kept.keep(0, false).is(true);
        kept.lose(0).is(true);
        kept.keep(1, false).is(true);
        asWithout(plain, kept);
    }

    private static void asWithout(Run plain, Run kept) {
        int size = plain.count(1).number();
        kept.count(1).is(size);
        kept.total(1).is(plain.total(1).number());
        kept.lookup(1, 1).is(plain.lookup(1, 1).number());
        for (int k = 0; k <= size; k++) {
            kept.keyOf(1, k).is(plain.keyOf(1, k).number());
            kept.valueOf(1, k).is(plain.valueOf(1, k).number());
        }
        kept.count(0).is(4);
    }

    private static void keepingEndsWithTheSet() {
        Run run = Run.of(Run.pairs(1, 10));
        run.derive(1, 0, 3, 0).is(1);
        run.keep(1, true).is(true);
        run.pairsAre(1, 1, 30);
        run.drop().is(1);
        run.derive(1, 0, 5, 0).is(1);
        run.pairsAre(1, 1, 50);
        run.lose(1).is(true);
        run.pairsAre(1, 1, 50);
    }

    /** Data set 1, made of a data set 0 of these pairs (and in kind 7 of it alone), has the pairs that are due. */
    private static void derived(int[] of, int kind, int a, int b, int... due) {
        Run run = Run.of(of);
        run.derive(kind, 0, a, b).is(1);
        run.pairsAre(1, due);
    }
}
