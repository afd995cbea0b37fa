import java.util.ArrayList;
import java.util.Comparator;
import java.util.HashSet;
import java.util.List;
import java.util.Set;
import java.util.TreeMap;

/** Long runs of calls, the same ones every time, held against a plain model of the document. */
public final class ModelTest {
    private static final int RUNS = 3000;
    private static final int CALLS = 512;
    private static final int MOST_TOLD = 20;

    private static final int BAD = -1;
    private static final int FULL = -2;
    private static final int BIG = -3;

    private static int wrong = 0;

    public static void main(String[] args) {
        for (int run = 0; run < RUNS && wrong < MOST_TOLD; run++) {
            new ModelTest(run).runCalls();
        }
        System.out.println(wrong == 0 ? "all answers are the model's" : wrong + " answers are not the model's");
        if (wrong != 0) {
            System.exit(1);
        }
    }

    private record Pair(int key, int value) { }

    // One object for every big data set, since nothing can be asked of it but whether it is big.
    private static final List<Pair> BIG_SET = new ArrayList<>();
    private static final Comparator<Pair> BY_KEY = Comparator.comparingInt(Pair::key).thenComparingInt(Pair::value);
    private static final Comparator<Pair> BY_VALUE = Comparator.comparingInt(Pair::value).thenComparingInt(Pair::key);

    private final int run;
    private final LineageEngine engine = new LineageEngine();
    private final List<Pair> hand = new ArrayList<>();
    private final List<List<Pair>> sets = new ArrayList<>();
    private long state;

    private ModelTest(int run) {
        this.run = run;
        this.state = run;
    }

    private void runCalls() {
        for (int call = 0; call < CALLS; call++) {
            oneCall();
        }
    }

    private void oneCall() {
        int choice = below(100);
        if (choice < 22) {
            callRow(keyArgument(), valueArgument());
        } else if (choice < 42) {
            callDerive(below(25) == 0 ? anyInt() : below(14) - 1, setArgument(), smallOrAny(), smallOrAny());
        } else if (choice < 50) {
            int d = setArgument();
            due("count(" + d + ")", engine.count(d), count(d));
        } else if (choice < 55) {
            int d = setArgument();
            due("total(" + d + ")", engine.total(d), isSmall(d) ? sum(sets.get(d)) : 0);
        } else if (choice < 75) {
            callPair(setArgument(), below(12) == 0 ? anyInt() : below(50) - 1);
        } else if (choice < 81) {
            int d = setArgument();
            int key = keyArgument();
            due("lookup(" + d + ", " + key + ")", engine.lookup(d, key), lookup(d, key));
        } else if (choice < 91) {
            callWithoutTrace();
        } else if (choice < 92) {
            due("discard()", engine.discard(), hand.size());
            hand.clear();
        } else {
            due("drop()", engine.drop(), sets.isEmpty() ? BAD : sets.size() - 1);
            if (!sets.isEmpty()) {
                sets.remove(sets.size() - 1);
            }
        }
    }

    private void callRow(int key, int value) {
        int want;
        if (hand.size() == 24) {
            want = FULL;
        } else if (key < 0 || key > 15) {
            want = BAD;
        } else {
            hand.add(new Pair(key, value));
            want = hand.size();
        }
        due("row(" + key + ", " + value + ")", engine.row(key, value), want);
    }

    private void callDerive(int kind, int x, int a, int b) {
        int want;
        if (sets.size() == 16) {
            want = FULL;
        } else if (!fits(kind, x, a)) {
            want = BAD;
        } else {
            want = sets.size();
            sets.add(made(kind, x, a, b));
            if (kind == 0) {
                hand.clear();
            }
        }
        due("derive(" + kind + ", " + x + ", " + a + ", " + b + ")", engine.derive(kind, x, a, b), want);
    }

    private void callPair(int d, int k) {
        boolean there = isSmall(d) && k >= 0 && k < sets.get(d).size();
        int key = there ? sets.get(d).get(k).key() : count(d) == BIG ? BIG : BAD;
        if (below(2) == 0) {
            due("keyOf(" + d + ", " + k + ")", engine.keyOf(d, k), key);
        } else {
            due("valueOf(" + d + ", " + k + ")", engine.valueOf(d, k), there ? sets.get(d).get(k).value() : 0);
        }
    }

    private void callWithoutTrace() {
        int choice = below(3);
        if (choice == 0) {
            int d = setArgument();
            boolean on = below(2) == 0;
            due("keep(" + d + ", " + on + ")", engine.keep(d, on) ? 1 : 0, isSet(d) ? 1 : 0);
        } else if (choice == 1) {
            int w = below(10) == 0 ? anyInt() : below(6) - 1;
            due("lose(" + w + ")", engine.lose(w) ? 1 : 0, w >= 0 && w <= 3 ? 1 : 0);
        } else {
            int k = below(10) == 0 ? anyInt() : below(5) - 1;
            due("level(" + k + ")", engine.level(k) ? 1 : 0, k >= 0 && k <= 2 ? 1 : 0);
        }
    }

    private boolean isSet(int d) {
        return d >= 0 && d < sets.size();
    }

    private boolean isSmall(int d) {
        return isSet(d) && sets.get(d) != BIG_SET;
    }

    private int count(int d) {
        return !isSet(d) ? BAD : sets.get(d) == BIG_SET ? BIG : sets.get(d).size();
    }

    private int lookup(int d, int key) {
        return isSmall(d) ? sum(sets.get(d).stream().filter(pair -> pair.key() == key).toList()) : 0;
    }

    private static int sum(List<Pair> pairs) {
        return pairs.stream().mapToInt(Pair::value).sum();
    }

    private boolean fits(int kind, int x, int a) {
        return switch (kind) {
            case 0 -> true;
            case 1, 2, 3, 8, 11 -> isSet(x);
            case 4, 6 -> isSet(x) && a >= 0 && a <= 3;
            case 5, 7, 9 -> isSet(x) && isSet(a);
            case 10 -> isSet(x) && a >= 1 && a <= 8;
            default -> false;
        };
    }

    private List<Pair> made(int kind, int x, int a, int b) {
        boolean two = kind == 5 || kind == 7 || kind == 9;
        if (kind != 0 && (!isSmall(x) || (two && !isSmall(a)))) {
            return BIG_SET;
        }
        List<Pair> pairs = workedOut(kind, kind == 0 ? hand : sets.get(x), two ? sets.get(a) : List.of(), a, b);
        pairs.sort(BY_KEY);
        return pairs.size() > 48 ? BIG_SET : pairs;
    }

    private static List<Pair> workedOut(int kind, List<Pair> of, List<Pair> other, int a, int b) {
        List<Pair> made = new ArrayList<>();
        switch (kind) {
            case 0 -> made.addAll(of);
            case 1 -> of.forEach(p -> made.add(new Pair(p.key(), p.value() * a + b)));
            case 2 -> of.stream().filter(p -> p.value() >= a).forEach(made::add);
            case 3 -> of.forEach(p -> made.add(new Pair((p.key() * a + b) & 15, p.value())));
            case 4 -> {
                for (int time = 0; time < a; time++) {
                    made.addAll(of);
                }
            }
            case 5 -> {
                made.addAll(of);
                made.addAll(other);
            }
            case 6 -> {
                TreeMap<Integer, Integer> folded = new TreeMap<>();
                of.forEach(p -> folded.merge(p.key(), a == 3 ? 1 : p.value(), (m, n) -> switch (a) {
                    case 1 -> Math.min(m, n);
                    case 2 -> Math.max(m, n);
                    default -> m + n;
                }));
                folded.forEach((key, value) -> made.add(new Pair(key, value)));
            }
            case 7 -> of.forEach(p -> other.stream().filter(q -> q.key() == p.key())
                .forEach(q -> made.add(new Pair(p.key(), p.value() + q.value()))));
            case 8 -> made.addAll(new HashSet<>(of));
            case 9 -> {
                Set<Integer> keys = new HashSet<>();
                other.forEach(q -> keys.add(q.key()));
                of.stream().filter(p -> !keys.contains(p.key())).forEach(made::add);
            }
            case 10 -> {
                List<Pair> ordered = new ArrayList<>(of);
                ordered.sort(BY_VALUE);
                made.addAll(ordered.subList(Math.max(0, ordered.size() - a), ordered.size()));
            }
            default -> of.forEach(p -> made.add(new Pair(p.value() & 15, p.key())));
        }
        return made;
    }

    private int keyArgument() {
        return below(20) == 0 ? anyInt() : below(3) == 0 ? below(18) - 1 : below(5);
    }

    private int valueArgument() {
        return below(12) == 0 ? anyInt() : below(20) - 8;
    }

    private int setArgument() {
        if (below(40) == 0) {
            return anyInt();
        }
        return below(15) == 0 ? below(19) - 1 : below(sets.size() + 1);
    }

    private int smallOrAny() {
        return below(20) == 0 ? anyInt() : below(12) - 2;
    }

    private int anyInt() {
        return switch (below(4)) {
            case 0 -> Integer.MIN_VALUE;
            case 1 -> Integer.MAX_VALUE;
            default -> next();
        };
    }

    private int below(int bound) {
        return Math.floorMod(next(), bound);
    }

    /** The next of a fixed row of numbers (SplitMix64's), so that a fault shows in every run. */
    private int next() {
        state += 0x9E3779B97F4A7C15L;
        long mixed = (state ^ (state >>> 30)) * 0xBF58476D1CE4E5B9L;
        mixed = (mixed ^ (mixed >>> 27)) * 0x94D049BB133111EBL;
        return (int) ((mixed ^ (mixed >>> 31)) >>> 32);
    }

    private void due(String call, int got, int want) {
        if (got != want) {
            wrong++;
            System.out.println("run " + run + ": " + call + " answered " + got + ", due is " + want);
        }
    }
}
