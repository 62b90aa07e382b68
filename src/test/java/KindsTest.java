/** Promises 11 and 12: the kinds of the corners and their counts. */
public final class KindsTest {
    private static final Due due = new Due();
    private static final int START = MonotoneTriang.KIND_START;
    private static final int SPLIT = MonotoneTriang.KIND_SPLIT;
    private static final int END = MonotoneTriang.KIND_END;
    private static final int MERGE = MonotoneTriang.KIND_MERGE;
    private static final int REGULAR = MonotoneTriang.KIND_REGULAR;

    public static void main(String[] args) {
        kindsOf("triangle", Shapes.TRIANGLE, REGULAR, END, START);
        kindsOf("square", Shapes.SQUARE, REGULAR, END, REGULAR, START);
        kindsOf("all kinds", Shapes.ALL_KINDS,
                REGULAR, END, SPLIT, REGULAR, END, START, MERGE, START, MERGE, START);
        // Level edges: of two corners at the same height the right one is below.
        kindsOf("level notch in the top",
                new int[] {0, 0, 9, 0, 9, 9, 6, 9, 6, 4, 3, 4, 3, 9, 0, 9},
                REGULAR, END, REGULAR, START, MERGE, REGULAR, REGULAR, START);
        kindsOf("level notch in the bottom",
                new int[] {0, 0, 3, 0, 3, 5, 6, 5, 6, 0, 9, 0, 9, 9, 0, 9},
                REGULAR, END, SPLIT, REGULAR, REGULAR, END, REGULAR, START);
        kindsOf("flat corners are regular", new int[] {0, 0, 4, 0, 8, 0, 8, 4, 8, 8, 4, 4},
                REGULAR, REGULAR, END, REGULAR, START, REGULAR);
        notReady();
        wrongArguments();
        due.end();
    }

    /** The kinds do not depend on the sense of turning, so both senses are asked. */
    private static void kindsOf(String name, int[] coordinates, int... wanted) {
        kindsOnce(name, Shapes.triangulated(coordinates), wanted);
        int[] turned = new int[wanted.length];
        for (int i = 0; i < turned.length; i++) {
            turned[i] = wanted[wanted.length - 1 - i];
        }
        kindsOnce(name + " clockwise", Shapes.triangulated(Shapes.reversed(coordinates)), turned);
    }

    private static void kindsOnce(String name, MonotoneTriang shape, int[] wanted) {
        int[] counts = new int[REGULAR + 1];
        for (int i = 0; i < wanted.length; i++) {
            due.is(name + ": vertexKind(" + i + ")", shape.vertexKind(i), wanted[i]);
            counts[wanted[i]]++;
        }
        due.is(name + ": vertexKind(n)", shape.vertexKind(wanted.length), MonotoneTriang.KIND_NONE);
        for (int kind = START; kind <= REGULAR; kind++) {
            due.is(name + ": kindCount(" + kind + ")", shape.kindCount(kind), counts[kind]);
        }
        due.is(name + ": kindCount(KIND_NONE)", shape.kindCount(MonotoneTriang.KIND_NONE), 0);
    }

    private static void notReady() {
        MonotoneTriang reopened = Shapes.triangulated(Shapes.ALL_KINDS);
        reopened.reopen();
        MonotoneTriang failedAfterReady = Shapes.triangulated(Shapes.ALL_KINDS);
        failedAfterReady.reopen();
        failedAfterReady.addVertex(5, 5);
        failedAfterReady.triangulate();
        MonotoneTriang resetAfterReady = Shapes.triangulated(Shapes.ALL_KINDS);
        resetAfterReady.reset();
        MonotoneTriang[] shapes = {Shapes.editing(Shapes.ALL_KINDS), reopened, failedAfterReady,
            resetAfterReady, Shapes.triangulated(Shapes.BOW_TIE)};
        for (MonotoneTriang shape : shapes) {
            for (int i = -1; i <= 32; i++) {
                due.is("not ready: vertexKind(" + i + ")", shape.vertexKind(i), 0);
                due.is("not ready: kindCount(" + i + ")", shape.kindCount(i), 0);
            }
        }
    }

    private static void wrongArguments() {
        // A long list first: what it left behind must not show in the short one.
        MonotoneTriang shape = Shapes.triangulated(Shapes.ALL_KINDS);
        shape.reopen();
        for (int k = 0; k < 7; k++) {
            shape.removeLast();
        }
        shape.triangulate();
        for (int i = 3; i <= 32; i++) {
            due.is("vertexKind(" + i + ")", shape.vertexKind(i), 0);
        }
        due.is("kindCount(KIND_START)", shape.kindCount(START), 1);
        due.is("kindCount(KIND_END)", shape.kindCount(END), 1);
        due.is("kindCount(KIND_REGULAR)", shape.kindCount(REGULAR), 1);
        due.is("kindCount(6)", shape.kindCount(6), 0);
        for (int i : Shapes.EXTREMES) {
            due.is("vertexKind(" + i + ")", shape.vertexKind(i), 0);
            due.is("kindCount(" + i + ")", shape.kindCount(i), 0);
        }
    }
}
