/**
 * Promises 1 to 13, sentence by sentence. Where the document says 'Tested in this order', there is a call
 * for which two of the cases hold at once. Promise 14 has a test of its own, RefusalsTest.
 */
public final class PromisesTest {
    private static final int BAD = Run.BAD;
    private static final int FULL = Run.FULL;
    private static final int BIG = Run.BIG;
    private static final int MIN = Run.MIN;
    private static final int MAX = Run.MAX;
    private static final int[] NO_NUMBERS = {MIN, -1, 16, MAX};

    public static void main(String[] args) {
        newObject();
        row();
        deriveNumbers();
        deriveRefused();
        deriveFull();
        count();
        total();
        keyOf();
        valueOf();
        lookup();
        keep();
        lose();
        discard();
        drop();
        level();
        Sentences.end();
    }

    private static void newObject() {
        Sentences.holds("1: No data sets", () -> {
            for (int d = 0; d < 16; d++) {
                new Run().isNoSet(d);
            }
            new Run().derive(5, 0, 0, 0).is(BAD);
            new Run().drop().is(BAD);
            new Run().derive(0, 0, 0, 0).is(0);
        });
        Sentences.holds("1: no pairs in hand", () -> {
            new Run().discard().is(0);
            new Run().row(0, 0).is(1);
            Run.of(Run.pairs()).pairsAre(0);
        });
        Sentences.holds("1: A new object (whatever others have)", () -> {
            Run first = Run.of(Run.pairs(1, 1)).hand(2, 2);
            Run second = new Run();
            second.isNoSet(0);
            second.discard().is(0);
            second.derive(0, 0, 0, 0).is(0);
            second.pairsAre(0);
            first.pairsAre(0, 1, 1);
            first.discard().is(1);
        });
        // The level shows in no answer; that it is set must not be needed.
        Sentences.holds("1: the level is 2", () -> {
            Run untold = Run.of(Run.pairs(1, 1, 2, 2));
            Run told = new Run();
            told.level(2).is(true);
            told.set(1, 1, 2, 2);
            untold.derive(7, 0, 0, 0).is(1);
            told.derive(7, 0, 0, 0).is(1);
            untold.pairsAre(1, 1, 2, 2, 4);
            told.pairsAre(1, 1, 2, 2, 4);
        });
    }

    private static void row() {
        Sentences.holds("2: Adds a pair to those in hand. .. answers how many are in hand.", () -> {
            Run run = new Run();
            run.row(0, MIN).is(1);
            run.row(15, MAX).is(2);
            run.row(15, MAX).is(3);
            run.derive(0, 0, 0, 0).is(0);
            run.pairsAre(0, 0, MIN, 15, MAX, 15, MAX);
            run.row(3, 3).is(1);
        });
        Sentences.holds("2: 24 are in hand: FULL", () -> {
            Run run = new Run();
            for (int n = 1; n <= 24; n++) {
                run.row(n % 16, n).is(n);
            }
            run.row(1, 99).is(FULL);
            run.row(0, 0).is(FULL);
            run.derive(0, 0, 0, 0).is(0);
            run.count(0).is(24);
            run.total(0).is(300);
            run.row(1, 99).is(1);
        });
        Sentences.holds("2: 24 are in hand: FULL (not after they were taken away)", () -> {
            Run run = new Run().hand(Run.same(24, 1, 1));
            run.row(1, 1).is(FULL);
            run.discard().is(24);
            run.hand(Run.same(24, 2, 2)).row(2, 2).is(FULL);
        });
        Sentences.holds("2: key outside 0..15: BAD", () -> {
            Run run = new Run();
            for (int key : NO_NUMBERS) {
                run.row(key, 1).is(BAD);
            }
            run.row(0, 1).is(1);
            run.row(15, 1).is(2);
            run.row(16, 1).is(BAD);
            run.row(-1, 1).is(BAD);
            run.discard().is(2);
        });
        Sentences.holds("2: Tested in this order: FULL before BAD", () -> {
            Run run = new Run().hand(Run.same(23, 1, 1));
            run.row(16, 1).is(BAD);
            run.row(1, 1).is(24);
            for (int key : NO_NUMBERS) {
                run.row(key, 1).is(FULL);
            }
        });
    }

    private static void deriveNumbers() {
        Sentences.holds("3: Makes a data set .. answers its number.", () -> {
            Run run = new Run();
            for (int d = 0; d < 16; d++) {
                run.derive(d % 2 == 0 ? 0 : 8, d - 1, 0, 0).is(d);
                run.count(d).is(0);
            }
            run.drop().is(15);
            run.derive(0, 0, 0, 0).is(15);
        });
        Sentences.holds("3: for kind 0 no pairs are in hand then", () -> {
            Run run = new Run().hand(1, 1, 2, 2);
            run.derive(0, 0, 0, 0).is(0);
            run.discard().is(0);
            run.derive(0, 0, 0, 0).is(1);
            run.pairsAre(1);
            run.hand(Run.same(24, 3, 3)).derive(0, 0, 0, 0).is(2);
            run.row(4, 4).is(1);
        });
        Sentences.holds("3: for kind 0 no pairs are in hand then (for the others they still are)", () -> {
            for (int kind = 1; kind <= 11; kind++) {
                Run run = Run.of(Run.pairs(1, 1), Run.pairs(1, 2)).hand(5, 6);
                run.derive(kind, 0, 1, 0).is(2);
                run.lookup(2, 5).is(0);
                run.derive(0, 0, 0, 0).is(3);
                run.pairsAre(3, 5, 6);
            }
        });
    }

    private static void deriveRefused() {
        Sentences.holds("3: kind outside 0..11: BAD", () -> {
            for (int kind : new int[] {MIN, -1, 12, 13, MAX}) {
                answers(kind, 0, 0, 0, BAD);
                answers(kind, 0, 1, 0, BAD);
            }
            answers(0, 0, 0, 0, 1);
            answers(11, 0, 0, 0, 1);
        });
        Sentences.holds("3: x no data set: BAD", () -> {
            for (int kind = 1; kind <= 11; kind++) {
                int a = Run.takesTwoSets(kind) ? 0 : 1;
                for (int x : new int[] {MIN, -1, 1, 2, 15, 16, MAX}) {
                    answers(kind, x, a, 0, BAD);
                }
                answers(kind, 0, a, 0, 1);
            }
        });
        Sentences.holds("3: a in kinds 5, 7 and 9 no data set: BAD", () -> {
            for (int kind = 5; kind <= 9; kind += 2) {
                for (int a : new int[] {MIN, -1, 1, 2, 15, 16, MAX}) {
                    answers(kind, 0, a, 0, BAD);
                    answers(kind, a, a, 0, BAD);
                }
                answers(kind, 0, 0, 0, 1);
            }
        });
        Sentences.holds("3: a not from 0 to 3 in kinds 4 and 6: BAD", () -> {
            for (int kind = 4; kind <= 6; kind += 2) {
                answersForOnly(kind, 0, 3);
            }
        });
        Sentences.holds("3: a not from 1 to 8 in kind 10: BAD", () -> answersForOnly(10, 1, 8));
        Sentences.holds("3: (operands that a kind does not have play no part)", PromisesTest::operandsWithoutPart);
    }

    private static void answersForOnly(int kind, int least, int greatest) {
        for (int a = -2; a <= 18; a++) {
            answers(kind, 0, a, 0, a >= least && a <= greatest ? 1 : BAD);
        }
        answers(kind, 0, MIN, 0, BAD);
        answers(kind, 0, MAX, 0, BAD);
    }

    private static void operandsWithoutPart() {
        for (int none : new int[] {MIN, -1, 0, 1, 9, 16, MAX}) {
            answers(0, none, none, none, 1);
            answers(8, 0, none, none, 1);
            answers(11, 0, none, none, 1);
            answers(2, 0, 1, none, 1);
            answers(4, 0, 1, none, 1);
            answers(5, 0, 0, none, 1);
            answers(6, 0, 1, none, 1);
            answers(7, 0, 0, none, 1);
            answers(9, 0, 0, none, 1);
            answers(10, 0, 1, none, 1);
            // Kinds 1, 2 and 3 have an a that is any number.
            answers(1, 0, none, none, 1);
            answers(2, 0, none, none, 1);
            answers(3, 0, none, none, 1);
        }
        Run run = Run.of(Run.pairs(1, 5, 2, 7)).hand(3, 3);
        run.derive(0, 0, 5, 5).is(1);
        run.pairsAre(1, 3, 3);
        for (int b : new int[] {MIN, -1, 3, MAX}) {
            run.derive(2, 0, 6, b).is(2);
            run.derive(4, 0, 1, b).is(3);
            run.derive(6, 0, 0, b).is(4);
            run.derive(10, 0, 1, b).is(5);
            run.derive(11, 0, b, b).is(6);
            run.total(2).is(7);
            run.total(3).is(12);
            run.total(4).is(12);
            run.total(5).is(7);
            run.total(6).is(3);
            for (int left = 6; left >= 2; left--) {
                run.drop().is(left);
            }
        }
    }

    /** What derive answers where data set 0 is the only one, and how many there are then. */
    private static void answers(int kind, int x, int a, int b, int due) {
        Run run = Run.of(Run.pairs(1, 1));
        run.derive(kind, x, a, b).is(due);
        run.drop().is(due == BAD ? 0 : 1);
    }

    private static void deriveFull() {
        Sentences.holds("3: 16 are there: FULL", () -> {
            Run run = withSets(15);
            run.derive(1, 0, 1, 0).is(15);
            for (int kind = 0; kind <= 11; kind++) {
                run.derive(kind, 0, 1, 0).is(FULL);
            }
            run.drop().is(15);
            run.derive(1, 0, 1, 0).is(15);
            run.derive(1, 0, 1, 0).is(FULL);
        });
        Sentences.holds("3: Tested in this order: FULL before BAD", () -> {
            Run run = withSets(15);
            run.derive(12, 0, 0, 0).is(BAD);
            run.derive(0, 0, 0, 0).is(15);
            run.derive(-1, 0, 0, 0).is(FULL);
            run.derive(12, 0, 0, 0).is(FULL);
            run.derive(1, -1, 0, 0).is(FULL);
            run.derive(1, 16, 0, 0).is(FULL);
            run.derive(4, 0, 4, 0).is(FULL);
            run.derive(5, 0, 16, 0).is(FULL);
            run.derive(6, 0, -1, 0).is(FULL);
            run.derive(7, 0, -1, 0).is(FULL);
            run.derive(9, 16, 16, 0).is(FULL);
            run.derive(10, 0, 0, 0).is(FULL);
            run.derive(10, 0, 9, 0).is(FULL);
        });
    }

    private static Run withSets(int sets) {
        Run run = new Run();
        for (int d = 0; d < sets; d++) {
            run.set(1, d);
        }
        return run;
    }

    /** Data set 0 has 24 pairs, 1 is big: it has 576. */
    private static Run withBig() {
        Run run = Run.of(Run.same(24, 1, 7));
        run.derive(7, 0, 0, 0).is(1);
        return run;
    }

    private static void count() {
        Sentences.holds("4: The number of pairs of a data set.", () -> {
            for (int size = 0; size <= 24; size++) {
                Run.of(Run.same(size, 1, 1)).count(0).is(size);
            }
            Run run = Run.of(Run.same(24, 1, 1));
            run.derive(5, 0, 0, 0).is(1);
            run.count(1).is(48);
        });
        Sentences.holds("4: there is no data set d: BAD", () -> {
            Run run = withSets(2);
            run.count(1).is(1);
            run.count(2).is(BAD);
            for (int d : NO_NUMBERS) {
                run.count(d).is(BAD);
            }
            withSets(16).count(15).is(1);
            withSets(16).count(16).is(BAD);
        });
        Sentences.holds("4: it is big: BIG", () -> withBig().count(1).is(BIG));
        Sentences.holds("4: Tested in this order: BAD before BIG (a big one that is gone)", () -> {
            Run run = withBig();
            run.count(1).is(BIG);
            run.drop().is(1);
            run.count(1).is(BAD);
        });
    }

    private static void total() {
        Sentences.holds("5: The sum of the values of a data set", () -> {
            Run.of(Run.pairs(1, 4, 2, -9, 2, -9)).total(0).is(-14);
            Run.of(Run.pairs(0, 1, 15, 2)).total(0).is(3);
            Run.of(Run.pairs(1, MAX, 2, MAX, 3, 3)).total(0).is(1);
            Run.of(Run.pairs()).total(0).is(0);
        });
        Sentences.holds("5: 0 if there is none", () -> {
            Run run = withSets(3);
            run.total(2).is(2);
            run.total(3).is(0);
            for (int d : NO_NUMBERS) {
                run.total(d).is(0);
            }
            run.drop().is(2);
            run.total(2).is(0);
        });
        Sentences.holds("5: 0 if .. it is big", () -> withBig().total(1).is(0));
    }

    private static void keyOf() {
        Sentences.holds("6: The key of pair number k of a data set.", () -> {
            Run run = Run.of(Run.pairs(15, 1, 0, 2, 0, 3));
            run.keyOf(0, 0).is(0);
            run.keyOf(0, 1).is(0);
            run.keyOf(0, 2).is(15);
        });
        Sentences.holds("6: there is no data set d: BAD", () -> {
            Run run = withSets(2);
            run.keyOf(1, 0).is(1);
            run.keyOf(2, 0).is(BAD);
            for (int d : NO_NUMBERS) {
                run.keyOf(d, 0).is(BAD);
            }
        });
        Sentences.holds("6: it is big: BIG", () -> {
            Run run = withBig();
            run.keyOf(1, 0).is(BIG);
            run.keyOf(1, 47).is(BIG);
        });
        Sentences.holds("6: there is no pair k: BAD", () -> {
            Run run = Run.of(Run.pairs(3, 3), Run.pairs(4, 4, 5, 5), Run.pairs(), Run.same(24, 6, 6));
            for (int k : new int[] {MIN, -48, -24, -1, 2, 24, 48, MAX}) {
                run.keyOf(1, k).is(BAD);
            }
            run.keyOf(1, 1).is(5);
            run.keyOf(2, 0).is(BAD);
            run.derive(4, 3, 2, 0).is(4);
            run.keyOf(4, 47).is(6);
            run.keyOf(4, 48).is(BAD);
        });
        Sentences.holds("6: Tested in this order: BIG before there being no pair k", () -> {
            Run run = withBig();
            for (int k : new int[] {MIN, -1, 48, 576, MAX}) {
                run.keyOf(1, k).is(BIG);
            }
        });
        Sentences.holds("6: Tested in this order: no data set before BIG and no pair", () -> {
            Run run = withBig();
            run.drop().is(1);
            run.keyOf(1, 0).is(BAD);
            run.keyOf(1, -1).is(BAD);
            run.keyOf(-1, -1).is(BAD);
            run.keyOf(16, 48).is(BAD);
        });
    }

    private static void valueOf() {
        Sentences.holds("7: The value of pair number k of a data set", () -> {
            Run run = Run.of(Run.pairs(15, 1, 0, 2, 0, -3));
            run.valueOf(0, 0).is(-3);
            run.valueOf(0, 1).is(2);
            run.valueOf(0, 2).is(1);
        });
        Sentences.holds("7: 0 if there is none", () -> {
            Run run = Run.of(Run.pairs(3, 3), Run.pairs(4, 4, 5, 5), Run.pairs(6, 6), Run.same(24, 6, 6));
            for (int k : new int[] {MIN, -48, -24, -1, 2, 24, 48, MAX}) {
                run.valueOf(1, k).is(0);
            }
            run.valueOf(4, 0).is(0);
            for (int d : NO_NUMBERS) {
                run.valueOf(d, 0).is(0);
            }
            run.derive(4, 3, 2, 0).is(4);
            run.valueOf(4, 47).is(6);
            run.valueOf(4, 48).is(0);
            run.drop().is(4);
            run.valueOf(4, 0).is(0);
        });
        Sentences.holds("7: 0 if .. the data set is big", () -> {
            Run run = withBig();
            for (int k : new int[] {MIN, -1, 0, 1, 47, 48, MAX}) {
                run.valueOf(1, k).is(0);
            }
        });
    }

    private static void lookup() {
        Sentences.holds("8: The sum of the values with a key in a data set", () -> {
            Run run = Run.of(Run.pairs(0, 1, 5, 10, 5, -3, 7, MAX, 7, 1, 15, 6));
            run.lookup(0, 0).is(1);
            run.lookup(0, 5).is(7);
            run.lookup(0, 7).is(MIN);
            run.lookup(0, 15).is(6);
        });
        Sentences.holds("8: 0 if there is none: no value with that key, no such key", () -> {
            Run run = Run.of(Run.pairs(0, 1, 15, 6), Run.pairs());
            for (int key : new int[] {MIN, -16, -1, 1, 14, 16, 31, MAX}) {
                run.lookup(0, key).is(0);
            }
            run.lookup(1, 0).is(0);
        });
        Sentences.holds("8: 0 if there is none: no data set", () -> {
            Run run = withSets(3);
            run.lookup(2, 1).is(2);
            run.lookup(3, 1).is(0);
            for (int d : NO_NUMBERS) {
                run.lookup(d, 1).is(0);
            }
            run.drop().is(2);
            run.lookup(2, 1).is(0);
        });
        Sentences.holds("8: 0 if .. the data set is big", () -> {
            Run run = withBig();
            for (int key : new int[] {MIN, -1, 0, 1, 15, 16, MAX}) {
                run.lookup(1, key).is(0);
            }
        });
    }

    private static void keep() {
        Sentences.holds("9: There is no data set d: refused, answers false.", () -> {
            Run run = withSets(2);
            for (int d : new int[] {MIN, -1, 2, 15, 16, MAX}) {
                run.keep(d, true).is(false);
                run.keep(d, false).is(false);
            }
            run.drop().is(1);
            run.keep(1, true).is(false);
            run.drop().is(0);
            run.keep(0, false).is(false);
        });
        Sentences.holds("9: Else true.", () -> {
            Run run = withSets(16);
            for (int d = 0; d < 16; d++) {
                run.keep(d, false).is(true);
                run.keep(d, true).is(true);
                run.keep(d, true).is(true);
                run.keep(d, false).is(true);
            }
            withBig().keep(1, true).is(true);
        });
    }

    private static void lose() {
        Sentences.holds("10: w outside 0..3: refused, answers false.", () -> {
            Run run = withSets(6);
            for (int w : new int[] {MIN, -1, 4, 5, MAX}) {
                run.lose(w).is(false);
                new Run().lose(w).is(false);
            }
        });
        Sentences.holds("10: Else true.", () -> {
            for (int w = 0; w <= 3; w++) {
                Run run = new Run();
                run.lose(w).is(true);
                run.set(1, 10);
                run.keep(0, true).is(true);
                run.pairsAre(0, 1, 10);
                run.lose(w).is(true);
                run.lose(w).is(true);
                run.pairsAre(0, 1, 10);
            }
        });
    }

    private static void discard() {
        Sentences.holds("11: Takes the pairs in hand away", () -> {
            Run run = Run.of(Run.pairs(1, 1)).hand(2, 2, 3, 3);
            run.discard().is(2);
            run.row(4, 4).is(1);
            run.derive(0, 0, 0, 0).is(1);
            run.pairsAre(0, 1, 1);
            run.pairsAre(1, 4, 4);
        });
        Sentences.holds("11: answers how many there were", () -> {
            for (int size = 0; size <= 24; size++) {
                Run run = new Run().hand(Run.same(size, 1, 1));
                run.discard().is(size);
                run.discard().is(0);
            }
        });
    }

    private static void drop() {
        Sentences.holds("12: Takes the data set that was made last away", () -> {
            Run run = withSets(3).hand(2, 2);
            run.drop().is(2);
            run.isNoSet(2);
            run.derive(5, 0, 2, 0).is(BAD);
            run.pairsAre(0, 1, 0);
            run.pairsAre(1, 1, 1);
            run.derive(0, 0, 0, 0).is(2);
            run.pairsAre(2, 2, 2);
        });
        Sentences.holds("12: answers how many are left", () -> {
            Run run = withSets(16);
            for (int left = 15; left >= 0; left--) {
                run.drop().is(left);
                run.count(left).is(BAD);
            }
            Run other = withBig();
            other.drop().is(1);
            other.drop().is(0);
        });
        Sentences.holds("12: BAD if there was none", () -> {
            Run run = new Run();
            run.drop().is(BAD);
            run.drop().is(BAD);
            run.set(1, 1);
            run.drop().is(0);
            run.drop().is(BAD);
            run.derive(0, 0, 0, 0).is(0);
        });
    }

    private static void level() {
        Sentences.holds("13: k outside 0..2: refused, answers false.", () -> {
            Run run = new Run();
            for (int k : new int[] {MIN, -1, 3, 4, MAX}) {
                run.level(k).is(false);
            }
        });
        Sentences.holds("13: Else true. It shows in no answer.", () -> {
            for (int kind = 1; kind <= 11; kind++) {
                levelShowsNotIn(kind);
            }
        });
    }

    private static void levelShowsNotIn(int kind) {
        Run plain = Run.of(Run.pairs(1, 2, 1, 7, 1, 7, 4, -3)).hand(5, 5);
        plain.derive(kind, 0, Run.takesTwoSets(kind) ? 0 : 2, 1).is(1);
        int size = plain.count(1).number();
        for (int made = 0; made <= 2; made++) {
            Run run = Run.of(Run.pairs(1, 2, 1, 7, 1, 7, 4, -3)).hand(5, 5);
            run.level(made).is(true);
            run.derive(kind, 0, Run.takesTwoSets(kind) ? 0 : 2, 1).is(1);
            for (int asked = 0; asked <= 2; asked++) {
                run.level(asked).is(true);
                run.count(1).is(size);
                run.total(1).is(plain.total(1).number());
                run.lookup(1, 1).is(plain.lookup(1, 1).number());
                for (int k = 0; k <= size; k++) {
                    run.keyOf(1, k).is(plain.keyOf(1, k).number());
                    run.valueOf(1, k).is(plain.valueOf(1, k).number());
                }
                run.pairsAre(0, 1, 2, 1, 7, 1, 7, 4, -3);
            }
            run.discard().is(1);
        }
    }
}
