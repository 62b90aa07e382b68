/** Promise 12, counting kinds, sentence by sentence. */
public final class Promise12Test {
    private static final Due due = new Due();

    public static void main(String[] args) {
        zeroWhenNotReady();
        zeroForWhatIsNoKind();
        answersTheCount();
        countsOnlyTheList();
        countsAddUpToTheCorners();
        startsAndSplitsMatchEndsAndMerges();
        changesNothing();
        due.end();
    }

    private static void countsAre(String name, MonotoneTriang shape, int... counts) {
        for (int kind = 1; kind <= 5; kind++) {
            due.is(name + ": kindCount(" + kind + ")", shape.kindCount(kind), counts[kind - 1]);
        }
    }

    private static void zeroWhenNotReady() {
        due.sentence("the state is not STATE_READY: answers 0");
        Situations.NOT_READY.forEach((name, maker) -> {
            MonotoneTriang shape = maker.get();
            for (int kind = -1; kind <= 6; kind++) {
                due.is(name + ": kindCount(" + kind + ")", shape.kindCount(kind), 0);
            }
        });
    }

    private static void zeroForWhatIsNoKind() {
        due.sentence("kind lies outside [KIND_START, KIND_REGULAR]: answers 0;"
                + " this includes KIND_NONE and every other int outside [1, 5]");
        Situations.READY.forEach((name, maker) -> {
            MonotoneTriang shape = maker.get();
            for (int kind = -300; kind <= 300; kind++) {
                if (kind < 1 || kind > 5) {
                    due.is(name + ": kindCount(" + kind + ")", shape.kindCount(kind), 0);
                }
            }
            for (int kind : Shapes.EXTREMES) {
                due.is(name + ": kindCount(" + kind + ")", shape.kindCount(kind), 0);
            }
            for (int kind : Shapes.WRAPPING) {
                due.is(name + ": kindCount(" + kind + ")", shape.kindCount(kind), 0);
            }
        });
    }

    private static void answersTheCount() {
        due.sentence("Otherwise it answers the number of i in [0, n) whose KIND is kind");
        countsAre("all kinds", Shapes.triangulated(Shapes.ALL_KINDS), 3, 1, 2, 2, 2);
        countsAre("triangle", Shapes.triangulated(Shapes.TRIANGLE), 1, 0, 1, 0, 1);
        countsAre("comb", Shapes.triangulated(Shapes.COMB), 15, 0, 1, 14, 2);
        int[] clockwise = Shapes.reversed(Shapes.COMB);
        countsAre("comb clockwise", Shapes.triangulated(clockwise), 15, 0, 1, 14, 2);
        int[] hanging = new int[64];
        for (int k = 0; k < 64; k++) {
            hanging[k] = -Shapes.COMB[k];
        }
        countsAre("hanging comb", Shapes.triangulated(hanging), 1, 14, 15, 0, 2);
    }

    private static void countsOnlyTheList() {
        due.sentence("the number of i in [0, n), after a longer list was ready before");
        for (int n = 3; n < 32; n++) {
            countsAre("shortened to " + n, Shapes.shortened(n), 1, 0, 1, 0, n - 2);
        }
    }

    private static void countsAddUpToTheCorners() {
        due.sentence("In STATE_READY the counts for KIND_START through KIND_REGULAR add up to n");
        Situations.READY.forEach((name, maker) -> {
            MonotoneTriang shape = maker.get();
            int sum = 0;
            for (int kind = 1; kind <= 5; kind++) {
                sum += shape.kindCount(kind);
            }
            due.is(name + ": sum of the counts", sum, shape.vertexCount());
        });
    }

    private static void startsAndSplitsMatchEndsAndMerges() {
        due.sentence("kindCount(KIND_START) + kindCount(KIND_SPLIT) equals"
                + " kindCount(KIND_END) + kindCount(KIND_MERGE), and this sum is at least 1");
        Situations.READY.forEach((name, maker) -> {
            MonotoneTriang shape = maker.get();
            int upper = shape.kindCount(1) + shape.kindCount(2);
            int lower = shape.kindCount(3) + shape.kindCount(4);
            due.is(name + ": starts and splits", upper, lower);
            due.is(name + ": at least 1", upper >= 1, true);
        });
    }

    private static void changesNothing() {
        due.sentence("It changes nothing");
        Twins.getterChangesNothing(due, "kindCount(kind)");
    }
}
