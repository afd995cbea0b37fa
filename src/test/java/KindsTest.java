import java.util.List;

/** The kinds of data sets, line by line of the document's table: ordinary pairs, and the bounds that a line names. */
public final class KindsTest {
    private static final int BAD = Run.BAD;
    private static final int MIN = Run.MIN;
    private static final int MAX = Run.MAX;
    private static final int[] NONE = {};

    public static void main(String[] args) {
        Sentences.holds("0 the pairs in hand", KindsTest::hand);
        Sentences.holds("1 of every pair of x the same with value * a + b", KindsTest::scaled);
        Sentences.holds("2 the pairs of x with a value of at least a", KindsTest::atLeast);
        Sentences.holds("3 of every pair of x the same with the key (key * a + b) & 15", KindsTest::rekeyed);
        Sentences.holds("4 every pair of x a times (a from 0 to 3)", KindsTest::repeated);
        Sentences.holds("5 all pairs of x and all of data set a (together as often as in both)", KindsTest::union);
        folded();
        Sentences.holds("7 for every pair of x and every pair of data set a with the same key one pair: the key, and"
            + " the sum of the two values", KindsTest::joined);
        Sentences.holds("8 every pair that is in x, once", KindsTest::distinct);
        Sentences.holds("9 the pairs of x whose keys are not in data set a", KindsTest::without);
        Sentences.holds("10 the a (1 to 8) last pairs of x in the order by value, then by key", KindsTest::last);
        Sentences.holds("10 .. (all, if there are not more)", KindsTest::lastOfFew);
        Sentences.holds("11 of every pair of x one with the key value & 15 and the value key", KindsTest::swapped);
        Sentences.holds("x being an earlier data set", KindsTest::earlierSets);
        Sentences.end();
    }

    private static void hand() {
        Run.of(Run.pairs(9, 1, 2, MAX, 2, MIN, 9, 0, 2, 0, 2, 0)).pairsAre(0, 2, MIN, 2, 0, 2, 0, 2, MAX, 9, 0, 9, 1);
        Run.of(NONE).pairsAre(0);
        Run.of(Run.same(24, 4, 4)).pairsAre(0, Run.same(24, 4, 4));
    }

    private static void scaled() {
        int[] of = {0, 5, 3, -7, 3, 2, 3, 2, 15, 9};
        made(of, 1, -2, 1, 0, -9, 3, -3, 3, -3, 3, 15, 15, -17);
        made(of, 1, 1, 0, of);
        made(of, 1, 0, 7, 0, 7, 3, 7, 3, 7, 3, 7, 15, 7);
        made(of, 1, 0, 0, 0, 0, 3, 0, 3, 0, 3, 0, 15, 0);
        made(NONE, 1, 5, 5);
    }

    private static void atLeast() {
        int[] of = {0, 5, 3, -7, 3, 2, 3, 2, 15, MAX};
        made(of, 2, 1, 0, 0, 5, 3, 2, 3, 2, 15, MAX);
        made(of, 2, 2, 0, 0, 5, 3, 2, 3, 2, 15, MAX);
        made(of, 2, 3, 0, 0, 5, 15, MAX);
        made(of, 2, -7, 0, of);
        made(of, 2, -6, 0, 0, 5, 3, 2, 3, 2, 15, MAX);
        made(of, 2, MIN, 0, of);
        made(of, 2, MAX, 0, 15, MAX);
        made(Run.pairs(1, MIN, 1, MAX - 1), 2, MAX, 0);
        made(Run.pairs(1, MIN, 2, MIN + 1), 2, MIN, 0, 1, MIN, 2, MIN + 1);
        made(Run.pairs(1, MIN, 2, MIN + 1), 2, MIN + 1, 0, 2, MIN + 1);
        made(NONE, 2, MIN, 0);
    }

    private static void rekeyed() {
        int[] of = {0, 5, 3, -7, 3, 2, 3, 2, 15, MAX};
        made(of, 3, 1, 0, of);
        made(of, 3, 1, 1, 0, MAX, 1, 5, 4, -7, 4, 2, 4, 2);
        made(of, 3, -1, 0, 0, 5, 1, MAX, 13, -7, 13, 2, 13, 2);
        made(of, 3, 0, -1, 15, -7, 15, 2, 15, 2, 15, 5, 15, MAX);
        made(of, 3, 0, 16, 0, -7, 0, 2, 0, 2, 0, 5, 0, MAX);
        made(of, 3, 16, 15, 15, -7, 15, 2, 15, 2, 15, 5, 15, MAX);
        made(of, 3, MAX, MIN, 0, 5, 1, MAX, 13, -7, 13, 2, 13, 2);
        made(NONE, 3, 1, 1);
    }

    private static void repeated() {
        int[] of = {0, 5, 3, 2, 3, 2, 15, MAX};
        made(of, 4, 0, 0);
        made(of, 4, 1, 0, of);
        made(of, 4, 2, 0, 0, 5, 0, 5, 3, 2, 3, 2, 3, 2, 3, 2, 15, MAX, 15, MAX);
        made(Run.pairs(6, 1), 4, 3, 0, 6, 1, 6, 1, 6, 1);
        made(Run.same(16, 6, 1), 4, 3, 0, Run.same(48, 6, 1));
        made(NONE, 4, 3, 0);
        refused(of, 4, -1);
        refused(of, 4, 4);
    }

    private static void union() {
        int[] of = {1, 10, 2, 5, 2, 5};
        madeOfTwo(of, Run.pairs(0, 1, 2, 5, 2, -5), 5, 0, 1, 1, 10, 2, -5, 2, 5, 2, 5, 2, 5);
        madeOfTwo(of, NONE, 5, of);
        madeOfTwo(NONE, of, 5, of);
        madeOfTwo(NONE, NONE, 5);
        madeOfTwo(of, of, 5, 1, 10, 1, 10, 2, 5, 2, 5, 2, 5, 2, 5);
        madeWithItself(of, 5, 1, 10, 1, 10, 2, 5, 2, 5, 2, 5, 2, 5);
    }

    private static void folded() {
        int[] of = {0, 5, 3, -7, 3, 2, 3, 2, 14, MAX, 14, 1, 15, MIN, 15, MAX};
        Sentences.holds("6 for every key in x one pair: its value is the sum (a = 0)", () ->
            made(of, 6, 0, 0, 0, 5, 3, -3, 14, MIN, 15, -1));
        Sentences.holds("6 for every key in x one pair: .. the least (1)", () ->
            made(of, 6, 1, 0, 0, 5, 3, -7, 14, 1, 15, MIN));
        Sentences.holds("6 for every key in x one pair: .. the greatest (2)", () ->
            made(of, 6, 2, 0, 0, 5, 3, 2, 14, MAX, 15, MAX));
        Sentences.holds("6 for every key in x one pair: .. or the number (3) of the values with that key", () ->
            made(of, 6, 3, 0, 0, 1, 3, 3, 14, 2, 15, 2));
        Sentences.holds("6 for every key in x one pair: none, one and all keys", () -> {
            for (int how = 0; how <= 3; how++) {
                made(NONE, 6, how, 0);
                made(Run.pairs(9, -4), 6, how, 0, 9, how == 3 ? 1 : -4);
                made(Run.pairs(0, -4), 6, how, 0, 0, how == 3 ? 1 : -4);
                made(allKeys(), 6, how, 0, how == 3 ? sameForAllKeys(1) : allKeys());
            }
            made(Run.same(24, 7, -2), 6, 0, 0, 7, -48);
            made(Run.same(24, 7, -2), 6, 3, 0, 7, 24);
            refused(of, 6, -1);
            refused(of, 6, 4);
        });
    }

    private static int[] allKeys() {
        int[] pairs = sameForAllKeys(0);
        for (int key = 0; key < 16; key++) {
            pairs[2 * key + 1] = 10 - key;
        }
        return pairs;
    }

    private static int[] sameForAllKeys(int value) {
        int[] pairs = new int[32];
        for (int key = 0; key < 16; key++) {
            pairs[2 * key] = key;
            pairs[2 * key + 1] = value;
        }
        return pairs;
    }

    private static void joined() {
        int[] of = {1, 10, 1, 20, 2, 5, 2, 5, 7, MAX};
        int[] other = {1, 1, 2, 5, 2, -5, 7, 1, 9, 9};
        madeOfTwo(of, other, 7, 1, 11, 1, 21, 2, 0, 2, 0, 2, 10, 2, 10, 7, MIN);
        madeOfTwo(other, of, 7, 1, 11, 1, 21, 2, 0, 2, 0, 2, 10, 2, 10, 7, MIN);
        madeOfTwo(Run.pairs(0, 1, 15, 2), Run.pairs(0, 3, 15, 4), 7, 0, 4, 15, 6);
        madeOfTwo(Run.pairs(1, 1, 3, 3), Run.pairs(2, 1, 4, 3), 7);
        madeOfTwo(of, NONE, 7);
        madeOfTwo(NONE, of, 7);
        madeWithItself(Run.pairs(1, 10, 1, -5, 3, 7), 7, 1, -10, 1, 5, 1, 5, 1, 20, 3, 14);
    }

    private static void distinct() {
        made(Run.pairs(1, 4, 1, 4, 2, 4, 1, 5, 2, 5, 1, 4), 8, 0, 0, 1, 4, 1, 5, 2, 4, 2, 5);
        made(Run.same(24, 0, 0), 8, 0, 0, 0, 0);
        made(Run.pairs(1, 4, 2, 4), 8, 0, 0, 1, 4, 2, 4);
        made(Run.pairs(1, 4, 2, 4, 2, 5), 8, 0, 0, 1, 4, 2, 4, 2, 5);
        made(Run.pairs(1, 4, 1, 5), 8, 0, 0, 1, 4, 1, 5);
        made(Run.pairs(1, 4, 1, 4, 2, 5), 8, 0, 0, 1, 4, 2, 5);
        made(NONE, 8, 0, 0);
    }

    private static void without() {
        int[] of = {0, 3, 1, 10, 1, 20, 2, 5, 2, 5, 15, 1};
        madeOfTwo(of, Run.pairs(1, 10), 9, 0, 3, 2, 5, 2, 5, 15, 1);
        madeOfTwo(of, Run.pairs(0, 0, 15, 0, 15, 9), 9, 1, 10, 1, 20, 2, 5, 2, 5);
        madeOfTwo(of, Run.pairs(3, 3, 14, 10), 9, of);
        madeOfTwo(of, NONE, 9, of);
        madeOfTwo(NONE, of, 9);
        madeOfTwo(of, sameForAllKeys(7), 9);
        madeWithItself(of, 9);
    }

    private static void last() {
        int[] of = {0, 8, 1, 3, 2, 8, 3, -1, 4, 3, 4, 3, 5, MIN, 6, 8, 7, 2, 9, MAX};
        made(of, 10, 1, 0, 9, MAX);
        made(of, 10, 2, 0, 6, 8, 9, MAX);
        made(of, 10, 3, 0, 2, 8, 6, 8, 9, MAX);
        made(of, 10, 5, 0, 0, 8, 2, 8, 4, 3, 6, 8, 9, MAX);
        made(of, 10, 6, 0, 0, 8, 2, 8, 4, 3, 4, 3, 6, 8, 9, MAX);
        made(of, 10, 8, 0, 0, 8, 1, 3, 2, 8, 4, 3, 4, 3, 6, 8, 7, 2, 9, MAX);
        made(Run.same(24, 3, 3), 10, 8, 0, Run.same(8, 3, 3));
        // The order is by value first: a great key does not help.
        made(Run.pairs(15, -1, 14, 0, 0, 1), 10, 1, 0, 0, 1);
        made(Run.pairs(15, -1, 14, 0, 0, 1), 10, 2, 0, 0, 1, 14, 0);
        refused(of, 10, 0);
        refused(of, 10, 9);
        refused(of, 10, -1);
    }

    private static void lastOfFew() {
        int[] of = {1, 2, 3, -4, 3, 5};
        made(of, 10, 2, 0, 1, 2, 3, 5);
        made(of, 10, 3, 0, of);
        made(of, 10, 4, 0, of);
        made(of, 10, 8, 0, of);
        made(Run.same(8, 1, 1), 10, 8, 0, Run.same(8, 1, 1));
        made(Run.same(9, 1, 1), 10, 8, 0, Run.same(8, 1, 1));
        made(NONE, 10, 1, 0);
        made(NONE, 10, 8, 0);
    }

    private static void swapped() {
        made(Run.pairs(0, 5, 3, -7, 3, 2, 3, 2, 15, MAX), 11, 0, 0, 2, 3, 2, 3, 5, 0, 9, 3, 15, 15);
        made(Run.pairs(1, 15, 2, 16, 3, 17), 11, 0, 0, 0, 2, 1, 3, 15, 1);
        made(Run.pairs(4, -1, 5, -16, 6, MIN), 11, 0, 0, 0, 5, 0, 6, 15, 4);
        made(Run.pairs(15, 0, 0, 0), 11, 0, 0, 0, 0, 0, 15);
        made(NONE, 11, 0, 0);
    }

    /** Every earlier one can be x, not only the last, and so can one that was made of another. */
    private static void earlierSets() {
        Run run = new Run();
        for (int d = 0; d < 15; d++) {
            run.set(d, 1);
        }
        for (int x = 0; x < 15; x++) {
            run.derive(1, x, 2, 0).is(15);
            run.keyOf(15, 0).is(x);
            run.drop().is(15);
            run.derive(5, 14 - x, x, 0).is(15);
            run.lookup(15, x).is(x == 7 ? 2 : 1);
            run.drop().is(15);
        }
        Run chain = Run.of(Run.pairs(0, 1));
        for (int d = 1; d < 16; d++) {
            chain.derive(d % 2 == 0 ? 1 : 3, d - 1, d % 2 == 0 ? 2 : 1, d % 2 == 0 ? 0 : 1).is(d);
        }
        chain.keyOf(15, 0).is(8);
        chain.valueOf(15, 0).is(128);
    }

    private static void made(int[] of, int kind, int a, int b, int... due) {
        for (Run run : List.of(new Run(), used())) {
            run.set(of);
            run.derive(kind, 0, a, b).is(1);
            run.pairsAre(1, due);
            run.count(0).is(of.length / 2);
        }
    }

    private static void madeOfTwo(int[] of, int[] other, int kind, int... due) {
        for (Run run : List.of(new Run(), used())) {
            run.set(of).set(other);
            run.derive(kind, 0, 1, 0).is(2);
            run.pairsAre(2, due);
            run.count(0).is(of.length / 2);
            run.count(1).is(other.length / 2);
        }
    }

    private static void madeWithItself(int[] of, int kind, int... due) {
        made(of, kind, 0, 0, due);
    }

    /** An object that is as a new one again; what it had, a big data set too, must not come back. */
    private static Run used() {
        Run run = Run.of(allKeys(), Run.same(24, 1, 7));
        run.derive(7, 1, 1, 0).is(2);
        for (int left = 2; left >= 0; left--) {
            run.drop().is(left);
        }
        run.hand(Run.same(24, 1, 7)).discard().is(24);
        return run;
    }

    private static void refused(int[] of, int kind, int a) {
        Run run = Run.of(of);
        run.derive(kind, 0, a, 0).is(BAD);
        run.isNoSet(1);
    }
}
