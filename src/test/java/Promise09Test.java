/** Promise 9, the corners' coordinates, sentence by sentence. */
public final class Promise09Test {
    private static final Due due = new Due();

    public static void main(String[] args) {
        answersTheCoordinates();
        workInAnyState();
        negativeIndexAnswersZero();
        indexFromTheCountOnAnswersZero();
        removedIndexAnswersZero();
        resetIndexAnswersZero();
        changeNothing();
        due.end();
    }

    private static void noCorner(String name, MonotoneTriang shape, int i) {
        due.is(name + ": vertexX(" + i + ")", shape.vertexX(i), 0);
        due.is(name + ": vertexY(" + i + ")", shape.vertexY(i), 0);
    }

    private static void answersTheCoordinates() {
        due.sentence("answers v_i.x, v_i.y if 0 <= i < n");
        Corners.are(due, "comb", Shapes.editing(Shapes.COMB), Shapes.COMB);
        Corners.are(due, "bounds", Shapes.editing(Shapes.WHOLE_PLANE), Shapes.WHOLE_PLANE);
        Corners.are(due, "one corner", Shapes.editing(-1000, 1000), -1000, 1000);
    }

    private static void workInAnyState() {
        due.sentence("Both work in any state");
        int[][] lists = {{3, 5}, Shapes.REPEATED, Shapes.FOLDED, Shapes.BOW_TIE, Shapes.ALL_KINDS,
            Shapes.reversed(Shapes.ALL_KINDS), Shapes.COMB};
        for (int[] list : lists) {
            Corners.are(due, "editing", Shapes.editing(list), list);
            Corners.are(due, "judged", Shapes.triangulated(list), list);
            Corners.are(due, "reopened", Shapes.reopened(list), list);
            noCorner("judged", Shapes.triangulated(list), -1);
            noCorner("judged", Shapes.triangulated(list), list.length / 2);
        }
    }

    private static void negativeIndexAnswersZero() {
        due.sentence("Any negative i answers 0");
        int[] far = {Integer.MIN_VALUE, Integer.MIN_VALUE + 1, Integer.MIN_VALUE + 32, -65536,
            -65535, -256, -255};
        for (MonotoneTriang shape : filledObjects()) {
            for (int i = -100; i < 0; i++) {
                noCorner("negative", shape, i);
            }
            for (int i : far) {
                noCorner("negative", shape, i);
            }
        }
    }

    private static void indexFromTheCountOnAnswersZero() {
        due.sentence("any i >= n answers 0");
        int[] far = {256, 257, 65536, 65537, 1 << 30, Integer.MAX_VALUE - 31,
            Integer.MAX_VALUE - 1, Integer.MAX_VALUE};
        for (MonotoneTriang shape : filledObjects()) {
            for (int i = shape.vertexCount(); i < 100; i++) {
                noCorner("from n on", shape, i);
            }
            for (int i : far) {
                noCorner("from n on", shape, i);
            }
        }
        for (int i = 0; i < 40; i++) {
            noCorner("empty", new MonotoneTriang(32), i);
        }
    }

    /** Without a zero among their coordinates, so that no wrong answer is 0 by chance. */
    private static MonotoneTriang[] filledObjects() {
        int[] corners = {7, 9, 8, 9, 7, 11};
        return new MonotoneTriang[] {
            Shapes.editing(corners), Shapes.triangulated(corners), Shapes.triangulated(7, 9, 8, 9),
            Shapes.editing(Shapes.COMB), Shapes.triangulated(Shapes.COMB)
        };
    }

    private static void removedIndexAnswersZero() {
        due.sentence("this includes an index that was in use before a removeLast");
        MonotoneTriang shape = Shapes.reopened(Shapes.COMB);
        for (int n = 31; n >= 0; n--) {
            shape.removeLast();
            for (int i = n; i <= 32; i++) {
                noCorner("removed", shape, i);
            }
        }
    }

    private static void resetIndexAnswersZero() {
        due.sentence("this includes an index that was in use before a reset");
        MonotoneTriang[] shapes = {Shapes.editing(Shapes.COMB), Shapes.triangulated(Shapes.COMB),
            Shapes.triangulated(Shapes.WHOLE_PLANE), Shapes.triangulated(7, 9, 8, 9)};
        for (MonotoneTriang shape : shapes) {
            shape.reset();
            for (int i = 0; i <= 32; i++) {
                noCorner("reset", shape, i);
            }
            shape.addVertex(5, 6);
            Corners.are(due, "one appended again", shape, 5, 6);
            for (int i = 1; i <= 32; i++) {
                noCorner("one appended again", shape, i);
            }
        }
    }

    private static void changeNothing() {
        due.sentence("Neither changes anything");
        Twins.getterChangesNothing(due, "vertexX(i)");
        Twins.getterChangesNothing(due, "vertexY(i)");
    }
}
