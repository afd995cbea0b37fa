/**
 * Each promise of the document by itself: ordinary inputs, the edges that are named, wrong inputs.
 * Nothing is promised after an object's 512th call, so long lists of cases take new objects.
 */
public final class PromisesTest {
    private static final int BAD = -1;
    private static final int FULL = -2;
    private static final int BIG = -3;
    private static final int MIN = Integer.MIN_VALUE;
    private static final int MAX = Integer.MAX_VALUE;
    private static final int[] NO_NUMBERS = {-1, 16, MIN, MAX};

    private static int wrong = 0;
    private static String promise = "";

    public static void main(String[] args) {
        newObject();
        row();
        derive();
        deriveFromHand();
        deriveOperands();
        kindsOfOneSet();
        kindFold();
        kindsOfTwoSets();
        kindLast();
        bigSets();
        notBigSets();
        count();
        total();
        keyOf();
        valueOf();
        lookup();
        keepAndLose();
        discard();
        drop();
        level();
        refusedCallsChangeNothing();
        System.out.println(wrong == 0 ? "all promises hold" : wrong + " answers are not as due");
        if (wrong != 0) {
            System.exit(1);
        }
    }

    private static void newObject() {
        promise = "1 A new object";
        LineageEngine x = new LineageEngine();
        due("count(0)", x.count(0), BAD);
        due("drop()", x.drop(), BAD);
        due("discard()", x.discard(), 0);
        due("row(0, 0)", x.row(0, 0), 1);
        LineageEngine other = new LineageEngine();
        due("discard() of another object", other.discard(), 0);
        due("derive(0, ..) of another object", other.derive(0, 0, 0, 0), 0);
        due("count(0) of the first object", x.count(0), BAD);
    }

    private static void row() {
        promise = "2 row";
        LineageEngine x = new LineageEngine();
        for (int key : NO_NUMBERS) {
            due("row(" + key + ", 1)", x.row(key, 1), BAD);
        }
        due("row(0, MIN)", x.row(0, MIN), 1);
        due("row(15, MAX)", x.row(15, MAX), 2);
        due("row(15, MAX) again", x.row(15, MAX), 3);
        for (int n = 4; n <= 24; n++) {
            due("row(" + n % 16 + ", 0)", x.row(n % 16, 0), n);
        }
        due("row(1, 1) when full", x.row(1, 1), FULL);
        due("row(16, 1) when full: FULL comes first", x.row(16, 1), FULL);
        due("derive(0, ..)", x.derive(0, 0, 0, 0), 0);
        due("count(0)", x.count(0), 24);
        due("row(1, 1) after derive", x.row(1, 1), 1);
    }

    private static void derive() {
        promise = "3 derive";
        LineageEngine x = new LineageEngine();
        for (int d = 0; d < 16; d++) {
            due("derive(0, ..)", x.derive(0, 0, 0, 0), d);
        }
        due("row(3, 4)", x.row(3, 4), 1);
        due("derive(0, ..) when full", x.derive(0, 0, 0, 0), FULL);
        due("derive(1, ..) when full", x.derive(1, 0, 1, 0), FULL);
        due("derive(12, ..) when full: FULL comes first", x.derive(12, 0, 0, 0), FULL);
        due("derive(1, 16, ..) when full: FULL comes first", x.derive(1, 16, 0, 0), FULL);
        due("drop()", x.drop(), 15);
        due("derive(12, ..)", x.derive(12, 0, 0, 0), BAD);
        due("derive(0, ..): the refused ones left the hand", x.derive(0, 0, 0, 0), 15);
        pairsAre(x, 15, 3, 4);
    }

    private static void deriveFromHand() {
        promise = "3 derive, kind 0";
        LineageEngine x = madeOf(9, 1, 2, MAX, 2, MIN, 9, 0, 2, 0, 2, 0);
        pairsAre(x, 0, 2, MIN, 2, 0, 2, 0, 2, MAX, 9, 0, 9, 1);
        due("discard(): no pairs are in hand then", x.discard(), 0);
        due("derive(0, ..) of an empty hand", x.derive(0, 0, 0, 0), 1);
        pairsAre(x, 1);
        due("derive(0, -1, -1, -1)", x.derive(0, -1, -1, -1), 2);
        due("derive(0, MAX, MAX, MAX)", x.derive(0, MAX, MAX, MAX), 3);
        due("row(1, 1)", x.row(1, 1), 1);
        due("derive(1, ..)", x.derive(1, 0, 1, 0), 4);
        due("discard(): only kind 0 takes the hand", x.discard(), 1);
    }

    private static void deriveOperands() {
        promise = "3 derive, operands";
        LineageEngine x = madeOf(1, 1);
        for (int kind : new int[] {-1, 12, MIN, MAX}) {
            due("derive(" + kind + ", 0, 1, 0)", x.derive(kind, 0, 1, 0), BAD);
        }
        for (int kind = 1; kind <= 11; kind++) {
            int a = takesTwoSets(kind) ? 0 : 1;
            for (int d : new int[] {-1, 1, 16, MIN, MAX}) {
                due("derive(" + kind + ", " + d + ", " + a + ", 0)", x.derive(kind, d, a, 0), BAD);
            }
        }
        for (int a : new int[] {MIN, -1, 0, 1, 2, 3, 4, 7, 8, 9, 15, 16, MAX}) {
            for (int kind = 1; kind <= 11; kind++) {
                operandFits(kind, a);
            }
        }
    }

    private static void operandFits(int kind, int a) {
        boolean fits = switch (kind) {
            case 4, 6 -> a >= 0 && a <= 3;
            case 5, 7, 9 -> a == 0;
            case 10 -> a >= 1 && a <= 8;
            default -> true;
        };
        for (int b : new int[] {0, MIN, MAX}) {
            LineageEngine x = madeOf(1, 1);
            due("derive(" + kind + ", 0, " + a + ", " + b + ")", x.derive(kind, 0, a, b), fits ? 1 : BAD);
            due("drop() after it", x.drop(), fits ? 1 : 0);
        }
    }

    private static boolean takesTwoSets(int kind) {
        return kind == 5 || kind == 7 || kind == 9;
    }

    private static void kindsOfOneSet() {
        promise = "3 derive, kinds 1 to 4, 8 and 11";
        int[][] sets = {{0, 5, 3, -7, 3, 2, 3, 2, 15, MAX}};
        made(sets, 1, 0, -2, 1, 0, -9, 3, -3, 3, -3, 3, 15, 15, 3);
        made(sets, 1, 0, 0, 7, 0, 7, 3, 7, 3, 7, 3, 7, 15, 7);
        made(sets, 1, 0, 1, 1, 0, 6, 3, -6, 3, 3, 3, 3, 15, MIN);
        made(sets, 2, 0, 2, 0, 0, 5, 3, 2, 3, 2, 15, MAX);
        made(sets, 2, 0, 3, 0, 0, 5, 15, MAX);
        made(sets, 2, 0, MIN, 0, 0, 5, 3, -7, 3, 2, 3, 2, 15, MAX);
        made(sets, 2, 0, MAX, 0, 15, MAX);
        made(sets, 3, 0, 1, 1, 0, MAX, 1, 5, 4, -7, 4, 2, 4, 2);
        made(sets, 3, 0, -1, 0, 0, 5, 1, MAX, 13, -7, 13, 2, 13, 2);
        made(sets, 3, 0, 0, -1, 15, -7, 15, 2, 15, 2, 15, 5, 15, MAX);
        made(sets, 3, 0, MAX, MIN, 0, 5, 1, MAX, 13, -7, 13, 2, 13, 2);
        made(sets, 4, 0, 0, 0);
        made(sets, 4, 0, 1, 0, 0, 5, 3, -7, 3, 2, 3, 2, 15, MAX);
        made(sets, 4, 0, 2, 0, 0, 5, 0, 5, 3, -7, 3, -7, 3, 2, 3, 2, 3, 2, 3, 2, 15, MAX, 15, MAX);
        made(sets, 8, 0, 0, 0, 0, 5, 3, -7, 3, 2, 15, MAX);
        made(sets, 11, 0, 0, 0, 2, 3, 2, 3, 5, 0, 9, 3, 15, 15);

        made(new int[][] {{6, 1}}, 4, 0, 3, 0, 6, 1, 6, 1, 6, 1);
        made(new int[][] {{1, 4, 1, 4, 2, 4, 1, 5, 2, 5, 1, 4}}, 8, 0, 0, 0, 1, 4, 1, 5, 2, 4, 2, 5);
        made(new int[][] {{1, 4, 2, 4}}, 8, 0, 0, 0, 1, 4, 2, 4);
        made(new int[][] {{4, -1, 5, -16, 6, MIN}}, 11, 0, 0, 0, 0, 5, 0, 6, 15, 4);
        for (int kind = 1; kind <= 11; kind++) {
            made(new int[][] {{}}, kind, 0, takesTwoSets(kind) ? 0 : 1, 3);
        }
    }

    private static void kindFold() {
        promise = "3 derive, kind 6";
        int[][] sets = {{0, 5, 3, -7, 3, 2, 3, 2, 14, MAX, 14, 1, 15, MIN}};
        made(sets, 6, 0, 0, 0, 0, 5, 3, -3, 14, MIN, 15, MIN);
        made(sets, 6, 0, 1, 0, 0, 5, 3, -7, 14, 1, 15, MIN);
        made(sets, 6, 0, 2, 0, 0, 5, 3, 2, 14, MAX, 15, MIN);
        made(sets, 6, 0, 3, 0, 0, 1, 3, 3, 14, 2, 15, 1);
    }

    private static void kindsOfTwoSets() {
        promise = "3 derive, kinds 5, 7 and 9";
        int[][] sets = {{1, 10, 1, 20, 2, 5, 2, 5, 7, MAX}, {1, 1, 2, 5, 2, -5, 7, 1, 9, 9}, {2, 0, 3, 0}};
        made(sets, 5, 0, 1, 0, 1, 1, 1, 10, 1, 20, 2, -5, 2, 5, 2, 5, 2, 5, 7, 1, 7, MAX, 9, 9);
        made(sets, 5, 2, 2, 0, 2, 0, 2, 0, 3, 0, 3, 0);
        made(sets, 7, 0, 1, 0, 1, 11, 1, 21, 2, 0, 2, 0, 2, 10, 2, 10, 7, MIN);
        made(sets, 7, 1, 0, 0, 1, 11, 1, 21, 2, 0, 2, 0, 2, 10, 2, 10, 7, MIN);
        made(sets, 7, 0, 2, 0, 2, 5, 2, 5);
        made(sets, 7, 2, 2, 0, 2, 0, 3, 0);
        made(sets, 9, 0, 1, 0);
        made(sets, 9, 1, 0, 0, 9, 9);
        made(sets, 9, 0, 2, 0, 1, 10, 1, 20, 7, MAX);
        made(sets, 9, 2, 0, 0, 3, 0);
        made(sets, 9, 0, 0, 0);
    }

    private static void kindLast() {
        promise = "3 derive, kind 10";
        int[][] sets = {{0, 8, 1, 3, 2, 8, 3, -1, 4, 3, 4, 3, 5, MIN, 6, 8, 7, 2, 9, MAX}};
        made(sets, 10, 0, 1, 0, 9, MAX);
        made(sets, 10, 0, 2, 0, 6, 8, 9, MAX);
        made(sets, 10, 0, 3, 0, 2, 8, 6, 8, 9, MAX);
        made(sets, 10, 0, 5, 0, 0, 8, 2, 8, 4, 3, 6, 8, 9, MAX);
        made(sets, 10, 0, 8, 0, 0, 8, 1, 3, 2, 8, 4, 3, 4, 3, 6, 8, 7, 2, 9, MAX);
        made(new int[][] {{1, 2, 3, 4}}, 10, 0, 2, 0, 1, 2, 3, 4);
        made(new int[][] {{1, 2, 3, 4}}, 10, 0, 8, 0, 1, 2, 3, 4);
    }

    private static void bigSets() {
        promise = "Terms, BIG";
        LineageEngine x = withBigSet();
        due("count(1): 48 are not too many", x.count(1), 48);
        due("total(1)", x.total(1), 48 * 7);
        due("valueOf(1, 47)", x.valueOf(1, 47), 7);
        bigIs(x, 3);
        for (int kind = 1; kind <= 11; kind++) {
            bigIsMade(kind, 3, takesTwoSets(kind) ? 2 : 1);
        }
        bigIsMade(5, 2, 3);
        bigIsMade(7, 2, 3);
        bigIsMade(9, 2, 3);
        // Of a big one it is big even if it has no pairs.
        bigIsMade(4, 3, 0);
        // 576 pairs of two that are not big.
        bigIsMade(7, 0, 0);
        bigIsMade(4, 1, 2);
        bigIsMade(5, 1, 1);
    }

    private static void notBigSets() {
        promise = "Terms, not BIG";
        LineageEngine x = withBigSet();
        due("derive(6, 2, 3, 0): a is no data set here", x.derive(6, 2, 3, 0), 4);
        pairsAre(x, 4, 5, 1);
        due("derive(0, 3, 3, 3): x is no data set here", x.derive(0, 3, 3, 3), 5);
        pairsAre(x, 5);
        due("derive(7, 1, 2, 0): of 48 pairs", x.derive(7, 1, 2, 0), 6);
        pairsAre(x, 6);
        for (int left = 6; left >= 3; left--) {
            due("drop()", x.drop(), left);
        }
        due("derive(8, 1, ..) where the big one was", x.derive(8, 1, 0, 0), 3);
        pairsAre(x, 3, 1, 7);
    }

    /** Data set 0 has 24 pairs, 1 has 48, 2 has one, and 3 is big: it has 49. */
    private static LineageEngine withBigSet() {
        int[] full = new int[48];
        for (int i = 0; i < full.length; i += 2) {
            full[i] = 1;
            full[i + 1] = 7;
        }
        LineageEngine x = madeOf(full);
        due("count(0)", x.count(0), 24);
        due("derive(4, 0, 2, 0)", x.derive(4, 0, 2, 0), 1);
        hand(x, 5, 6);
        due("derive(0, ..)", x.derive(0, 0, 0, 0), 2);
        due("derive(5, 1, 2, 0)", x.derive(5, 1, 2, 0), 3);
        return x;
    }

    private static void bigIsMade(int kind, int from, int a) {
        LineageEngine x = withBigSet();
        due("derive(" + kind + ", " + from + ", " + a + ", 0)", x.derive(kind, from, a, 0), 4);
        bigIs(x, 4);
        due("derive(10, 4, 1, 0)", x.derive(10, 4, 1, 0), 5);
        bigIs(x, 5);
    }

    private static void count() {
        promise = "4 count";
        LineageEngine x = madeOf(1, 1, 1, 1);
        due("count(0)", x.count(0), 2);
        due("count(1)", x.count(1), BAD);
        for (int d : NO_NUMBERS) {
            due("count(" + d + ")", x.count(d), BAD);
        }
    }

    private static void total() {
        promise = "5 total";
        LineageEngine x = madeOf(1, 4, 2, -9, 2, -9);
        due("total(0)", x.total(0), -14);
        due("total(1)", x.total(1), 0);
        for (int d : NO_NUMBERS) {
            due("total(" + d + ")", x.total(d), 0);
        }
        due("total that wraps", madeOf(1, MAX, 2, MAX, 3, 3).total(0), 1);
        due("total of no pairs", madeOf().total(0), 0);
    }

    private static void keyOf() {
        promise = "6 keyOf";
        LineageEngine x = madeOf(15, 1, 0, 2);
        due("keyOf(0, 0)", x.keyOf(0, 0), 0);
        due("keyOf(0, 1)", x.keyOf(0, 1), 15);
        due("keyOf(0, 2)", x.keyOf(0, 2), BAD);
        due("keyOf(1, 0)", x.keyOf(1, 0), BAD);
        for (int n : NO_NUMBERS) {
            due("keyOf(0, " + n + ")", x.keyOf(0, n), BAD);
            due("keyOf(" + n + ", 0)", x.keyOf(n, 0), BAD);
        }
    }

    private static void valueOf() {
        promise = "7 valueOf";
        LineageEngine x = madeOf(15, 1, 0, 2);
        due("valueOf(0, 0)", x.valueOf(0, 0), 2);
        due("valueOf(0, 1)", x.valueOf(0, 1), 1);
        hand(x, 3, 8);
        due("derive(0, ..)", x.derive(0, 0, 0, 0), 1);
        due("valueOf(0, 2)", x.valueOf(0, 2), 0);
        due("valueOf(0, 48): not the next set's", x.valueOf(0, 48), 0);
        due("valueOf(1, -48): not the last set's", x.valueOf(1, -48), 0);
        for (int n : NO_NUMBERS) {
            due("valueOf(0, " + n + ")", x.valueOf(0, n), 0);
            due("valueOf(" + n + ", 0)", x.valueOf(n, 0), 0);
        }
    }

    private static void lookup() {
        promise = "8 lookup";
        LineageEngine x = madeOf(0, 1, 5, 10, 5, -3, 7, MAX, 7, 1, 15, 6);
        due("lookup(0, 0)", x.lookup(0, 0), 1);
        due("lookup(0, 5)", x.lookup(0, 5), 7);
        due("lookup(0, 7)", x.lookup(0, 7), MIN);
        due("lookup(0, 15)", x.lookup(0, 15), 6);
        due("lookup(0, 6)", x.lookup(0, 6), 0);
        due("lookup(1, 5)", x.lookup(1, 5), 0);
        for (int n : NO_NUMBERS) {
            due("lookup(0, " + n + ")", x.lookup(0, n), 0);
            due("lookup(" + n + ", 5)", x.lookup(n, 5), 0);
        }
    }

    private static void keepAndLose() {
        promise = "9 keep and 10 lose";
        LineageEngine x = madeOf(1, 10, 2, 20);
        for (int n : new int[] {-1, 4, 16, MIN, MAX}) {
            due("keep(" + n + ", true)", x.keep(n, true), false);
            due("keep(" + n + ", false)", x.keep(n, false), false);
            due("lose(" + n + ")", x.lose(n), false);
        }
        due("keep(1, true): not there yet", x.keep(1, true), false);
        due("keep(0, false): was not kept", x.keep(0, false), true);
        due("keep(0, true)", x.keep(0, true), true);
        due("derive(1, 0, 3, 0)", x.derive(1, 0, 3, 0), 1);
        due("keep(1, true)", x.keep(1, true), true);
        due("keep(1, true) again", x.keep(1, true), true);
        pairsAre(x, 1, 1, 30, 2, 60);
        for (int w = 0; w < 4; w++) {
            due("lose(" + w + ")", x.lose(w), true);
            pairsAre(x, 0, 1, 10, 2, 20);
            pairsAre(x, 1, 1, 30, 2, 60);
        }
        due("drop()", x.drop(), 1);
        due("keep(1, true): not there any more", x.keep(1, true), false);
        due("derive(1, 0, 5, 0)", x.derive(1, 0, 5, 0), 1);
        pairsAre(x, 1, 1, 50, 2, 100);
        due("keep(1, false)", x.keep(1, false), true);
        pairsAre(x, 1, 1, 50, 2, 100);
    }

    private static void discard() {
        promise = "11 discard";
        LineageEngine x = madeOf(1, 1);
        hand(x, 2, 2, 3, 3);
        due("discard()", x.discard(), 2);
        due("discard() again", x.discard(), 0);
        pairsAre(x, 0, 1, 1);
        hand(x, 4, 4);
        due("derive(0, ..)", x.derive(0, 0, 0, 0), 1);
        pairsAre(x, 1, 4, 4);
        for (int n = 1; n <= 24; n++) {
            due("row(0, 0)", x.row(0, 0), n);
        }
        due("discard() of a full hand", x.discard(), 24);
        due("row(0, 0)", x.row(0, 0), 1);
    }

    private static void drop() {
        promise = "12 drop";
        LineageEngine x = madeOf(1, 1);
        hand(x, 2, 2);
        due("derive(4, 0, 3, 0)", x.derive(4, 0, 3, 0), 1);
        due("drop()", x.drop(), 1);
        due("count(1)", x.count(1), BAD);
        due("total(1)", x.total(1), 0);
        due("keyOf(1, 0)", x.keyOf(1, 0), BAD);
        due("valueOf(1, 0)", x.valueOf(1, 0), 0);
        due("lookup(1, 1)", x.lookup(1, 1), 0);
        due("derive(8, 1, ..)", x.derive(8, 1, 0, 0), BAD);
        due("derive(5, 0, 1, 0)", x.derive(5, 0, 1, 0), BAD);
        pairsAre(x, 0, 1, 1);
        due("drop()", x.drop(), 0);
        due("drop() of none", x.drop(), BAD);
        due("drop() of none again", x.drop(), BAD);
        due("derive(0, ..): the hand was left", x.derive(0, 0, 0, 0), 0);
        pairsAre(x, 0, 2, 2);
    }

    private static void level() {
        promise = "13 level";
        LineageEngine x = madeOf(1, 1, 2, 2);
        for (int k : new int[] {-1, 3, MIN, MAX}) {
            due("level(" + k + ")", x.level(k), false);
        }
        for (int k = 0; k <= 2; k++) {
            due("level(" + k + ")", x.level(k), true);
            pairsAre(x, 0, 1, 1, 2, 2);
            due("derive(7, 0, 0, 0)", x.derive(7, 0, 0, 0), k + 1);
            pairsAre(x, k + 1, 1, 2, 2, 4);
        }
    }

    private static void refusedCallsChangeNothing() {
        promise = "14 Order and limits";
        LineageEngine x = madeOf(1, 10, 2, 20);
        hand(x, 3, 30);
        due("row(16, 5)", x.row(16, 5), BAD);
        due("derive(-1, ..)", x.derive(-1, 0, 0, 0), BAD);
        due("derive(1, 1, ..)", x.derive(1, 1, 0, 0), BAD);
        due("derive(7, 0, 1, 0)", x.derive(7, 0, 1, 0), BAD);
        due("derive(4, 0, 4, 0)", x.derive(4, 0, 4, 0), BAD);
        due("count(1)", x.count(1), BAD);
        due("keyOf(0, 2)", x.keyOf(0, 2), BAD);
        due("keep(1, true)", x.keep(1, true), false);
        due("lose(4)", x.lose(4), false);
        due("level(3)", x.level(3), false);
        pairsAre(x, 0, 1, 10, 2, 20);
        due("derive(0, ..)", x.derive(0, 0, 0, 0), 1);
        pairsAre(x, 1, 3, 30);
        due("drop()", x.drop(), 1);
        due("drop()", x.drop(), 0);
        due("drop() of none", x.drop(), BAD);
        due("derive(0, ..)", x.derive(0, 0, 0, 0), 0);
    }

    /** A new object whose data set 0 has these pairs: key, value, key, value and so on. */
    private static LineageEngine madeOf(int... pairs) {
        return madeOfAll(new int[][] {pairs});
    }

    private static LineageEngine madeOfAll(int[][] sets) {
        LineageEngine x = new LineageEngine();
        for (int d = 0; d < sets.length; d++) {
            hand(x, sets[d]);
            due("derive(0, ..)", x.derive(0, 0, 0, 0), d);
        }
        return x;
    }

    private static void hand(LineageEngine x, int... pairs) {
        for (int i = 0; i < pairs.length; i += 2) {
            due("row(" + pairs[i] + ", " + pairs[i + 1] + ")", x.row(pairs[i], pairs[i + 1]), i / 2 + 1);
        }
    }

    /** Derives a data set from these and looks whether it has these pairs in this order. */
    private static void made(int[][] sets, int kind, int from, int a, int b, int... pairs) {
        LineageEngine x = madeOfAll(sets);
        String before = promise;
        promise = before + ", derive(" + kind + ", " + from + ", " + a + ", " + b + ")";
        due("its number", x.derive(kind, from, a, b), sets.length);
        pairsAre(x, sets.length, pairs);
        for (int d = 0; d < sets.length; d++) {
            due("count(" + d + ") afterwards", x.count(d), sets[d].length / 2);
        }
        promise = before;
    }

    private static void pairsAre(LineageEngine x, int d, int... pairs) {
        int size = pairs.length / 2;
        int sum = 0;
        int[] sums = new int[16];
        due("count(" + d + ")", x.count(d), size);
        for (int k = 0; k < size; k++) {
            due("keyOf(" + d + ", " + k + ")", x.keyOf(d, k), pairs[2 * k]);
            due("valueOf(" + d + ", " + k + ")", x.valueOf(d, k), pairs[2 * k + 1]);
            sum += pairs[2 * k + 1];
            sums[pairs[2 * k]] += pairs[2 * k + 1];
        }
        due("keyOf(" + d + ", " + size + ")", x.keyOf(d, size), BAD);
        due("valueOf(" + d + ", " + size + ")", x.valueOf(d, size), 0);
        due("total(" + d + ")", x.total(d), sum);
        for (int key = 0; key < 16; key++) {
            due("lookup(" + d + ", " + key + ")", x.lookup(d, key), sums[key]);
        }
    }

    private static void bigIs(LineageEngine x, int d) {
        due("count of a big set", x.count(d), BIG);
        due("total of a big set", x.total(d), 0);
        for (int k : new int[] {-1, 0, 47, 48, MIN, MAX}) {
            due("keyOf(.., " + k + ") of a big set", x.keyOf(d, k), BIG);
            due("valueOf(.., " + k + ") of a big set", x.valueOf(d, k), 0);
        }
        for (int key = -1; key <= 16; key++) {
            due("lookup(.., " + key + ") of a big set", x.lookup(d, key), 0);
        }
        due("keep of a big set", x.keep(d, true), true);
    }

    private static void due(String call, int got, int want) {
        if (got != want) {
            wrong++;
            System.out.println(promise + ": " + call + " answered " + got + ", due is " + want);
        }
    }

    private static void due(String call, boolean got, boolean want) {
        due(call, got ? 1 : 0, want ? 1 : 0);
    }
}
