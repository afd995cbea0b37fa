import java.util.ArrayList;
import java.util.List;

/** A new object and the calls on it, whose answers are held against those that are due. */
final class Run {
    static final int BAD = -1;
    static final int FULL = -2;
    static final int BIG = -3;
    static final int MIN = Integer.MIN_VALUE;
    static final int MAX = Integer.MAX_VALUE;

    private static final int MOST_CALLS = 512;

    private final LineageEngine engine = new LineageEngine();
    private int calls = 0;

    /** A new object with one data set for each list of pairs: key, value, key, value and so on. */
    static Run of(int[]... sets) {
        Run run = new Run();
        for (int[] pairs : sets) {
            run.set(pairs);
        }
        return run;
    }

    /** A list of pairs, to stand where several of them are handed over. */
    static int[] pairs(int... pairs) {
        return pairs;
    }

    /** The same pair so many times. */
    static int[] same(int times, int key, int value) {
        int[] pairs = new int[2 * times];
        for (int i = 0; i < times; i++) {
            pairs[2 * i] = key;
            pairs[2 * i + 1] = value;
        }
        return pairs;
    }

    static boolean takesTwoSets(int kind) {
        return kind == 5 || kind == 7 || kind == 9;
    }

    Answer row(int key, int value) {
        return asked("row(" + key + ", " + value + ")", engine.row(key, value));
    }

    Answer derive(int kind, int x, int a, int b) {
        return asked("derive(" + kind + ", " + x + ", " + a + ", " + b + ")", engine.derive(kind, x, a, b));
    }

    Answer count(int d) {
        return asked("count(" + d + ")", engine.count(d));
    }

    Answer total(int d) {
        return asked("total(" + d + ")", engine.total(d));
    }

    Answer keyOf(int d, int k) {
        return asked("keyOf(" + d + ", " + k + ")", engine.keyOf(d, k));
    }

    Answer valueOf(int d, int k) {
        return asked("valueOf(" + d + ", " + k + ")", engine.valueOf(d, k));
    }

    Answer lookup(int d, int key) {
        return asked("lookup(" + d + ", " + key + ")", engine.lookup(d, key));
    }

    Answer keep(int d, boolean on) {
        return asked("keep(" + d + ", " + on + ")", engine.keep(d, on) ? 1 : 0);
    }

    Answer lose(int w) {
        return asked("lose(" + w + ")", engine.lose(w) ? 1 : 0);
    }

    Answer discard() {
        return asked("discard()", engine.discard());
    }

    Answer drop() {
        return asked("drop()", engine.drop());
    }

    Answer level(int k) {
        return asked("level(" + k + ")", engine.level(k) ? 1 : 0);
    }

    int calls() {
        return calls;
    }

    // A test that goes on after the last promised call would hold the program to more than is due.
    private Answer asked(String call, int number) {
        calls++;
        if (calls > MOST_CALLS) {
            Sentences.fault("the test makes call " + calls + " on one object: " + call);
        }
        return new Answer(call + ", call " + calls + ",", number);
    }

    /** Takes pairs in hand, where none are. */
    Run hand(int... pairs) {
        for (int i = 0; i < pairs.length; i += 2) {
            row(pairs[i], pairs[i + 1]).is(i / 2 + 1);
        }
        return this;
    }

    /** Makes a data set of these pairs, where none are in hand. */
    Run set(int... pairs) {
        hand(pairs);
        derive(0, 0, 0, 0);
        return this;
    }

    /** Data set d has these pairs in this order, and every call that asks for it says so. */
    void pairsAre(int d, int... pairs) {
        int size = pairs.length / 2;
        int sum = 0;
        int[] sums = new int[16];
        count(d).is(size);
        for (int k = 0; k < size; k++) {
            keyOf(d, k).is(pairs[2 * k]);
            valueOf(d, k).is(pairs[2 * k + 1]);
            sum += pairs[2 * k + 1];
            sums[pairs[2 * k]] += pairs[2 * k + 1];
        }
        keyOf(d, size).is(BAD);
        valueOf(d, size).is(0);
        total(d).is(sum);
        for (int key = 0; key < 16; key++) {
            lookup(d, key).is(sums[key]);
        }
    }

    void isBig(int d) {
        count(d).is(BIG);
        total(d).is(0);
        keyOf(d, 0).is(BIG);
        valueOf(d, 0).is(0);
        lookup(d, 1).is(0);
    }

    void isNoSet(int d) {
        count(d).is(BAD);
        total(d).is(0);
        keyOf(d, 0).is(BAD);
        valueOf(d, 0).is(0);
        lookup(d, 1).is(0);
        keep(d, true).is(false);
        derive(1, d, 1, 0).is(BAD);
    }

    /** Answers to calls that tell all there is of an object with small data sets; it is used up then. */
    List<Answer> everything() {
        List<Answer> told = new ArrayList<>();
        int sets = 0;
        while (sets < 16 && count(sets).number() != BAD) {
            tell(sets, told);
            sets++;
        }
        // Only a data set shows what was in hand, and there must be room for it.
        if (sets == 16) {
            told.add(drop());
            sets--;
        }
        told.add(derive(0, 0, 0, 0));
        tell(sets, told);
        for (int left = sets; left >= -1; left--) {
            told.add(drop());
        }
        return told;
    }

    private void tell(int d, List<Answer> told) {
        Answer size = count(d);
        told.add(size);
        told.add(total(d));
        for (int k = 0; k <= size.number(); k++) {
            told.add(keyOf(d, k));
            told.add(valueOf(d, k));
        }
    }
}
