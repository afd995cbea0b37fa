import java.util.List;
import java.util.function.Consumer;
import java.util.function.Supplier;

/**
 * Promise 14: every way to be refused, in objects of several states, changes nothing. Of two objects that
 * were made alike one is refused; afterwards both are asked for all they have, and must answer alike.
 */
public final class RefusalsTest {
    private static final int BAD = Run.BAD;
    private static final int FULL = Run.FULL;
    private static final int BIG = Run.BIG;
    private static final int MIN = Run.MIN;
    private static final int MAX = Run.MAX;

    public static void main(String[] args) {
        holds("row: 24 are in hand: FULL", List.of(RefusalsTest::handFull, RefusalsTest::bothFull), run -> {
            run.row(1, 99).is(FULL);
            run.row(-1, 99).is(FULL);
            run.row(16, 99).is(FULL);
        });
        holds("row: key outside 0..15: BAD", handNotFull(), run -> {
            run.row(-1, 99).is(BAD);
            run.row(16, 99).is(BAD);
            run.row(MIN, 99).is(BAD);
            run.row(MAX, 99).is(BAD);
        });
        holds("derive: 16 are there: FULL", List.of(RefusalsTest::setsFull, RefusalsTest::bothFull), run -> {
            for (int kind = -1; kind <= 12; kind++) {
                run.derive(kind, 1, 1, 1).is(FULL);
            }
            run.derive(1, 16, 1, 1).is(FULL);
        });
        holds("derive: kind outside 0..11: BAD", setsNotFull(), run -> {
            run.derive(-1, 0, 0, 0).is(BAD);
            run.derive(12, 0, 0, 0).is(BAD);
            run.derive(MIN, 0, 0, 0).is(BAD);
            run.derive(MAX, 0, 0, 0).is(BAD);
        });
        holds("derive: x no data set: BAD", setsNotFull(), run -> {
            for (int kind = 1; kind <= 11; kind++) {
                run.derive(kind, -1, 1, 1).is(BAD);
                run.derive(kind, 15, 1, 1).is(BAD);
                run.derive(kind, 16, 1, 1).is(BAD);
            }
        });
        holds("derive: a in kinds 5, 7 and 9 no data set: BAD", setsNotFull(), run -> {
            for (int kind = 5; kind <= 9; kind += 2) {
                run.derive(kind, 0, -1, 1).is(BAD);
                run.derive(kind, 0, 15, 1).is(BAD);
                run.derive(kind, 0, 16, 1).is(BAD);
            }
        });
        holds("derive: a not from 0 to 3 in kinds 4 and 6: BAD", setsNotFull(), run -> {
            for (int kind = 4; kind <= 6; kind += 2) {
                run.derive(kind, 0, -1, 1).is(BAD);
                run.derive(kind, 0, 4, 1).is(BAD);
            }
        });
        holds("derive: a not from 1 to 8 in kind 10: BAD", setsNotFull(), run -> {
            run.derive(10, 0, 0, 1).is(BAD);
            run.derive(10, 0, 9, 1).is(BAD);
        });
        holds("count: there is no data set d: BAD", all(), run -> {
            run.count(-1).is(BAD);
            run.count(16).is(BAD);
        });
        holds("count: it is big: BIG", List.of(RefusalsTest::withBig), run -> run.count(1).is(BIG));
        holds("total, valueOf and lookup: 0 if there is none", all(), run -> {
            run.total(16).is(0);
            run.valueOf(16, 0).is(0);
            run.valueOf(0, 48).is(0);
            run.lookup(16, 1).is(0);
            run.lookup(0, 16).is(0);
        });
        holds("keyOf: there is no data set d: BAD; .. there is no pair k: BAD", all(), run -> {
            run.keyOf(-1, 0).is(BAD);
            run.keyOf(16, 0).is(BAD);
            run.keyOf(0, -1).is(BAD);
            run.keyOf(0, 48).is(BAD);
        });
        holds("keyOf: it is big: BIG", List.of(RefusalsTest::withBig), run -> run.keyOf(1, 0).is(BIG));
        holds("keep: There is no data set d: refused, answers false.", all(), run -> {
            run.keep(-1, true).is(false);
            run.keep(16, false).is(false);
            run.keep(MAX, true).is(false);
        });
        holds("lose: w outside 0..3: refused, answers false.", all(), run -> {
            run.lose(-1).is(false);
            run.lose(4).is(false);
        });
        holds("drop: BAD if there was none", List.of(Run::new, RefusalsTest::onlyHand), run -> run.drop().is(BAD));
        holds("level: k outside 0..2: refused, answers false.", all(), run -> {
            run.level(-1).is(false);
            run.level(3).is(false);
        });
        Sentences.holds("14: .. changes nothing (the number that was refused comes to be there)",
            RefusalsTest::refusedNumber);
        Sentences.end();
    }

    private static void holds(String refusal, List<Supplier<Run>> states, Consumer<Run> refused) {
        Sentences.holds("14: a call that is refused .. changes nothing. " + refusal, () -> {
            for (Supplier<Run> state : states) {
                changesNothing(state, refused);
            }
        });
    }

    private static void changesNothing(Supplier<Run> state, Consumer<Run> refused) {
        List<Answer> due = state.get().everything();
        Run run = state.get();
        refused.accept(run);
        refused.accept(run);
        List<Answer> told = run.everything();
        if (told.size() != due.size()) {
            Sentences.fault("afterwards there are other data sets or pairs than before");
            return;
        }
        for (int i = 0; i < due.size(); i++) {
            told.get(i).is(due.get(i).number());
        }
    }

    private static List<Supplier<Run>> handNotFull() {
        return List.of(Run::new, RefusalsTest::onlyHand, RefusalsTest::someOfBoth, RefusalsTest::setsFull,
            RefusalsTest::withBig);
    }

    private static List<Supplier<Run>> setsNotFull() {
        return List.of(Run::new, RefusalsTest::onlyHand, RefusalsTest::someOfBoth, RefusalsTest::handFull,
            RefusalsTest::withBig);
    }

    private static List<Supplier<Run>> all() {
        return List.of(Run::new, RefusalsTest::onlyHand, RefusalsTest::someOfBoth, RefusalsTest::handFull,
            RefusalsTest::setsFull, RefusalsTest::bothFull, RefusalsTest::withBig);
    }

    private static Run onlyHand() {
        return new Run().hand(3, 30, 2, 20);
    }

    private static Run someOfBoth() {
        Run run = Run.of(Run.pairs(1, 10, 2, 20), Run.pairs(), Run.pairs(4, MIN));
        run.derive(5, 0, 2, 0).is(3);
        run.keep(3, true).is(true);
        return run.hand(3, 30, 15, MAX, 3, 30);
    }

    private static Run handFull() {
        return Run.of(Run.pairs(1, 10)).hand(Run.same(24, 6, 60));
    }

    private static Run setsFull() {
        Run run = new Run();
        for (int d = 0; d < 16; d++) {
            run.set(d, 100 + d);
        }
        return run.hand(3, 30, 2, 20);
    }

    private static Run bothFull() {
        Run run = new Run();
        for (int d = 0; d < 16; d++) {
            run.set(d, 100 + d);
        }
        return run.hand(Run.same(24, 6, 60));
    }

    private static Run withBig() {
        Run run = Run.of(Run.same(7, 1, 7));
        run.derive(7, 0, 0, 0).is(1);
        run.isBig(1);
        return run.hand(3, 30);
    }

    private static void refusedNumber() {
        Run run = Run.of(Run.pairs(1, 10)).hand(2, 20);
        run.keep(1, true).is(false);
        run.derive(5, 0, 1, 0).is(BAD);
        run.derive(4, 0, 4, 0).is(BAD);
        run.count(1).is(BAD);
        run.derive(0, 0, 0, 0).is(1);
        run.pairsAre(1, 2, 20);
        run.pairsAre(0, 1, 10);
        run.drop().is(1);
        run.keep(1, false).is(false);
        run.derive(1, 0, 3, 0).is(1);
        run.pairsAre(1, 1, 30);
    }
}
