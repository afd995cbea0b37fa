/**
 * Data sets of pairs that are made of others.
 *
 * What a data set is made of never changes, and neither keeping nor the level shows in an answer.
 * So every data set is worked out once, when it is made, and nothing has to be worked out again.
 */
public final class LineageEngine {
    public static final int BAD = -1;
    public static final int FULL = -2;
    public static final int BIG = -3;

    private static final int KEYS = 16;
    private static final int MOST_IN_HAND = 24;
    private static final int MOST_SETS = 16;
    private static final int MOST_PAIRS = 48;
    private static final int ALL_PAIRS = MOST_SETS * MOST_PAIRS;
    private static final int WORKERS = 4;
    private static final int HIGHEST_LEVEL = 2;

    private static final int HAND = 0;
    private static final int SCALE = 1;
    private static final int AT_LEAST = 2;
    private static final int REKEY = 3;
    private static final int REPEAT = 4;
    private static final int UNION = 5;
    private static final int FOLD = 6;
    private static final int JOIN = 7;
    private static final int DISTINCT = 8;
    private static final int WITHOUT = 9;
    private static final int LAST = 10;
    private static final int SWAP = 11;

    private static final int MOST_REPEATS = 3;
    private static final int MOST_LAST = 8;

    private static final int FOLD_SUM = 0;
    private static final int FOLD_LEAST = 1;
    private static final int FOLD_GREATEST = 2;
    private static final int FOLD_NUMBER = 3;

    private final int[] handKeys = new int[MOST_IN_HAND];
    private final int[] handValues = new int[MOST_IN_HAND];
    private int inHand;

    // Data set d has the places from d * MOST_PAIRS on, and its pairs always stand there in the
    // order by key, then by value: a pair's number is its distance from the first place.
    private final int[] keys = new int[ALL_PAIRS];
    private final int[] values = new int[ALL_PAIRS];
    private final int[] sizes = new int[MOST_SETS];
    private final boolean[] big = new boolean[MOST_SETS];
    private int sets;

    public LineageEngine() {
        inHand = 0;
        sets = 0;
    }

    public int row(int key, int value) {
        if (inHand >= MOST_IN_HAND) {
            return FULL;
        }
        if (key < 0 || key >= KEYS) {
            return BAD;
        }
        handKeys[inHand] = key;
        handValues[inHand] = value;
        inHand++;
        return inHand;
    }

    public int derive(int kind, int x, int a, int b) {
        if (sets >= MOST_SETS) {
            return FULL;
        }
        if (!operandsFit(kind, x, a)) {
            return BAD;
        }
        sizes[sets] = 0;
        big[sets] = isMadeOfBig(kind, x, a);
        if (!big[sets]) {
            workOut(kind, x, a, b);
        }
        sets++;
        return sets - 1;
    }

    public int count(int d) {
        if (!isSet(d)) {
            return BAD;
        }
        return big[d] ? BIG : sizes[d];
    }

    public int total(int d) {
        if (!isSet(d) || big[d]) {
            return 0;
        }
        int first = firstPlace(d);
        int end = endPlace(d);
        return sumOfPlaces(first, end);
    }

    public int keyOf(int d, int k) {
        if (!isSet(d)) {
            return BAD;
        }
        if (big[d]) {
            return BIG;
        }
        return hasPair(d, k) ? keys[firstPlace(d) + k] : BAD;
    }

    public int valueOf(int d, int k) {
        if (!isSet(d) || big[d] || !hasPair(d, k)) {
            return 0;
        }
        return values[firstPlace(d) + k];
    }

    public int lookup(int d, int key) {
        if (!isSet(d) || big[d]) {
            return 0;
        }
        int first = firstPlace(d);
        int end = endPlace(d);
        int sum = 0;
        for (int i = first; i < end; i++) {
            if (keys[i] == key) {
                sum += values[i];
            }
        }
        return sum;
    }

    // No answer may show what is kept, and every data set is held worked out: nothing is to be done.
    public boolean keep(int d, boolean on) {
        return isSet(d);
    }

    // What a worker has lost would be worked out again to the same pairs: nothing is to be done.
    public boolean lose(int w) {
        return w >= 0 && w < WORKERS;
    }

    public int discard() {
        int were = inHand;
        inHand = 0;
        return were;
    }

    public int drop() {
        if (sets == 0) {
            return BAD;
        }
        sets--;
        return sets;
    }

    // No answer may show the level, and there is one way of working out: it is not even stored.
    public boolean level(int k) {
        return k >= 0 && k <= HIGHEST_LEVEL;
    }

    private boolean isSet(int d) {
        return d >= 0 && d < sets;
    }

    private boolean hasPair(int d, int k) {
        return k >= 0 && k < sizes[d];
    }

    private static int firstPlace(int d) {
        return d * MOST_PAIRS;
    }

    private int endPlace(int d) {
        return d * MOST_PAIRS + sizes[d];
    }

    private static boolean takesTwoSets(int kind) {
        return kind == UNION || kind == JOIN || kind == WITHOUT;
    }

    private boolean operandsFit(int kind, int x, int a) {
        if (kind == HAND) {
            return true;
        }
        if (kind < HAND || kind > SWAP || !isSet(x)) {
            return false;
        }
        if (takesTwoSets(kind)) {
            return isSet(a);
        }
        switch (kind) {
            case REPEAT:
                return a >= 0 && a <= MOST_REPEATS;
            case FOLD:
                return a >= FOLD_SUM && a <= FOLD_NUMBER;
            case LAST:
                return a >= 1 && a <= MOST_LAST;
            default:
                return true;
        }
    }

    private boolean isMadeOfBig(int kind, int x, int a) {
        if (kind == HAND) {
            return false;
        }
        return big[x] || (takesTwoSets(kind) && big[a]);
    }

    private void workOut(int kind, int x, int a, int b) {
        switch (kind) {
            case HAND:
                addHand();
                break;
            case SCALE:
                addScaled(x, a, b);
                break;
            case AT_LEAST:
                addAtLeast(x, a);
                break;
            case REKEY:
                addRekeyed(x, a, b);
                break;
            case REPEAT:
                addRepeated(x, a);
                break;
            case UNION:
                addRepeated(x, 1);
                addRepeated(a, 1);
                break;
            case FOLD:
                addFolded(x, a);
                break;
            case JOIN:
                addJoined(x, a);
                break;
            case DISTINCT:
                addDistinct(x);
                break;
            case WITHOUT:
                addWithout(x, a);
                break;
            case LAST:
                addLast(x, a);
                break;
            default:
                addSwapped(x);
                break;
        }
    }

    /** Puts a pair in its place in the data set that is being made, which is number sets. */
    private void add(int key, int value) {
        if (sizes[sets] >= MOST_PAIRS) {
            big[sets] = true;
            return;
        }
        int first = firstPlace(sets);
        int place = endPlace(sets);
        while (place > first && isBefore(key, value, place - 1)) {
            keys[place] = keys[place - 1];
            values[place] = values[place - 1];
            place--;
        }
        keys[place] = key;
        values[place] = value;
        sizes[sets]++;
    }

    private boolean isBefore(int key, int value, int place) {
        return key < keys[place] || (key == keys[place] && value < values[place]);
    }

    private void addHand() {
        for (int i = 0; i < inHand; i++) {
            add(handKeys[i], handValues[i]);
        }
        inHand = 0;
    }

    private void addScaled(int x, int a, int b) {
        int first = firstPlace(x);
        int end = endPlace(x);
        for (int i = first; i < end; i++) {
            add(keys[i], values[i] * a + b);
        }
    }

    private void addAtLeast(int x, int least) {
        int first = firstPlace(x);
        int end = endPlace(x);
        for (int i = first; i < end; i++) {
            if (values[i] >= least) {
                add(keys[i], values[i]);
            }
        }
    }

    private void addRekeyed(int x, int a, int b) {
        int first = firstPlace(x);
        int end = endPlace(x);
        for (int i = first; i < end; i++) {
            add((keys[i] * a + b) & (KEYS - 1), values[i]);
        }
    }

    private void addRepeated(int x, int times) {
        int first = firstPlace(x);
        int end = endPlace(x);
        for (int i = first; i < end; i++) {
            for (int time = 0; time < times; time++) {
                add(keys[i], values[i]);
            }
        }
    }

    private void addFolded(int x, int how) {
        int first = firstPlace(x);
        int end = endPlace(x);
        int firstOfKey = first;
        for (int i = first; i < end; i++) {
            boolean lastOfKey = i + 1 == end || keys[i + 1] != keys[i];
            if (lastOfKey) {
                int folded = foldedPlaces(firstOfKey, i + 1, how);
                add(keys[i], folded);
                firstOfKey = i + 1;
            }
        }
    }

    /** The places have one key, so their values stand in order: the least first, the greatest last. */
    private int foldedPlaces(int first, int end, int how) {
        switch (how) {
            case FOLD_LEAST:
                return values[first];
            case FOLD_GREATEST:
                return values[end - 1];
            case FOLD_NUMBER:
                return end - first;
            default:
                return sumOfPlaces(first, end);
        }
    }

    private int sumOfPlaces(int first, int end) {
        int sum = 0;
        for (int i = first; i < end; i++) {
            sum += values[i];
        }
        return sum;
    }

    private void addJoined(int x, int other) {
        int first = firstPlace(x);
        int end = endPlace(x);
        int otherFirst = firstPlace(other);
        int otherEnd = endPlace(other);
        for (int i = first; i < end; i++) {
            for (int j = otherFirst; j < otherEnd; j++) {
                if (keys[i] == keys[j]) {
                    add(keys[i], values[i] + values[j]);
                }
            }
        }
    }

    /** The same pairs stand side by side, so a pair is new iff the one before it is another. */
    private void addDistinct(int x) {
        int first = firstPlace(x);
        int end = endPlace(x);
        for (int i = first; i < end; i++) {
            if (i == first || keys[i] != keys[i - 1] || values[i] != values[i - 1]) {
                add(keys[i], values[i]);
            }
        }
    }

    private void addWithout(int x, int other) {
        int first = firstPlace(x);
        int end = endPlace(x);
        for (int i = first; i < end; i++) {
            if (!hasKey(other, keys[i])) {
                add(keys[i], values[i]);
            }
        }
    }

    private boolean hasKey(int d, int key) {
        int first = firstPlace(d);
        int end = endPlace(d);
        for (int i = first; i < end; i++) {
            if (keys[i] == key) {
                return true;
            }
        }
        return false;
    }

    private void addLast(int x, int most) {
        int first = firstPlace(x);
        int end = endPlace(x);
        for (int i = first; i < end; i++) {
            if (laterByValue(i, first, end) < most) {
                add(keys[i], values[i]);
            }
        }
    }

    /** Pairs with the same value stand in the order of their keys, so their places decide. */
    private int laterByValue(int place, int first, int end) {
        int later = 0;
        for (int i = first; i < end; i++) {
            if (values[i] > values[place] || (values[i] == values[place] && i > place)) {
                later++;
            }
        }
        return later;
    }

    private void addSwapped(int x) {
        int first = firstPlace(x);
        int end = endPlace(x);
        for (int i = first; i < end; i++) {
            add(values[i] & (KEYS - 1), keys[i]);
        }
    }
}
