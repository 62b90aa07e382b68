/** Promises 5 and 6: judging the list, and going back to editing. */
public final class TriangulateTest {
    private static final Due due = new Due();

    public static void main(String[] args) {
        simpleLists();
        tooFew();
        repeated();
        crossing();
        refusedOutsideEditing();
        listIsKept();
        reopening();
        due.end();
    }

    private static void judged(String name, int want, int... coordinates) {
        Judged.inEveryTurn(due, name, want, coordinates);
    }

    private static void simpleLists() {
        int ok = MonotoneTriang.RESULT_OK;
        judged("triangle", ok, Shapes.TRIANGLE);
        judged("square", ok, Shapes.SQUARE);
        judged("all kinds", ok, Shapes.ALL_KINDS);
        judged("flat corner", ok, 0, 0, 3, 0, 6, 0, 0, 6);
        judged("flat corners on every side", ok, 0, 0, 2, 0, 4, 0, 2, 2, 0, 4, 0, 2);
        judged("thin triangle", ok, -1000, -1000, 1000, 999, 1000, 1000);
        judged("edges on one line, apart", ok, 0, 0, 2, 0, 3, 1, 4, 0, 6, 0, 3, 5);
        judged("end on another edge's line, beyond it", ok, 0, 0, 4, 0, 4, 4, 2, 4, 2, 2, 0, 2);
    }

    private static void tooFew() {
        int few = MonotoneTriang.RESULT_TOO_FEW;
        judged("no corner", few);
        judged("one corner", few, 5, 5);
        judged("two corners", few, 5, 5, 6, 6);
        judged("two equal corners", few, 5, 5, 5, 5);
    }

    private static void repeated() {
        int repeated = MonotoneTriang.RESULT_REPEATED;
        judged("closed by hand", repeated, Shapes.REPEATED);
        judged("three equal corners", repeated, 1, 1, 1, 1, 1, 1);
        judged("neighbours equal", repeated, 0, 0, 4, 0, 4, 0, 0, 4);
        judged("far corners equal", repeated, 0, 0, 4, 0, 2, 2, 4, 4, 0, 4, 2, 2);
        judged("repeated and crossing", repeated, 0, 0, 4, 4, 4, 0, 0, 4, 0, 0);
        judged("repeated and folded", repeated, 0, 0, 4, 0, 2, 0, 4, 0);
    }

    private static void crossing() {
        int crossing = MonotoneTriang.RESULT_CROSSING;
        judged("bow tie", crossing, Shapes.BOW_TIE);
        judged("three corners on a line", crossing, 0, 0, 1, 1, 2, 2);
        judged("four corners on a line", crossing, 0, 0, 1, 0, 2, 0, 3, 0);
        judged("fold to a shorter edge", crossing, 0, 0, 6, 0, 3, 0, 3, 5);
        judged("fold to a longer edge", crossing, 2, 0, 6, 0, 0, 0, 3, 5);
        judged("slanted fold", crossing, 0, 0, 6, 3, 2, 1, 0, 5);
        judged("corner on an edge", crossing, 0, 0, 4, 0, 4, 4, 2, 0, 0, 4);
        judged("corner on a slanted edge", crossing, 0, 0, 8, 4, 8, 8, 4, 2, 0, 8);
        judged("edges overlapping on a line", crossing, 0, 0, 6, 0, 6, 4, 4, 0, 2, 0, 0, 4);
        judged("edges crossing in half points", crossing, 0, 0, 3, 1, 3, 0, 0, 1);
        judged("star", crossing, 0, 10, 6, -8, -10, 3, 10, 3, -6, -8);
        judged("closing edge crosses", crossing, 0, 0, 6, 0, 6, 6, 3, -3);
    }

    private static void refusedOutsideEditing() {
        int[][] lists = {Shapes.SQUARE, {}, Shapes.REPEATED, Shapes.BOW_TIE};
        for (int[] list : lists) {
            MonotoneTriang shape = Shapes.triangulated(list);
            String before = Shapes.everything(shape);
            due.is("triangulate() again", shape.triangulate(), MonotoneTriang.RESULT_NOT_EDITING);
            due.is("nothing changed", Shapes.everything(shape).equals(before), true);
        }
    }

    private static void listIsKept() {
        int[][] lists = {Shapes.ALL_KINDS, Shapes.reversed(Shapes.ALL_KINDS), {}, {7, -7},
            Shapes.REPEATED, Shapes.BOW_TIE};
        for (int[] list : lists) {
            MonotoneTriang shape = Shapes.editingUpTo(10, list);
            shape.triangulate();
            Corners.are(due, "after triangulate()", shape, list);
            due.is("reopen()", shape.reopen(), true);
            Corners.are(due, "after reopen()", shape, list);
            for (int n = list.length / 2; n < 10; n++) {
                due.is("capacity is kept: addVertex", shape.addVertex(n, n), n);
            }
            due.is("capacity is kept: addVertex when full", shape.addVertex(1, 1), -1);
        }
    }

    private static void reopening() {
        MonotoneTriang shape = Shapes.editing(Shapes.SQUARE);
        String edited = Shapes.everything(shape);
        due.is("reopen() while editing", shape.reopen(), false);
        due.is("nothing changed", Shapes.everything(shape).equals(edited), true);
        due.is("reopen() of a new object", new MonotoneTriang(4).reopen(), false);

        shape.triangulate();
        due.is("reopen() when ready", shape.reopen(), true);
        due.is("status()", shape.status(), MonotoneTriang.STATE_EDITING);
        due.is("kinds and triangles are gone", Shapes.everything(shape).equals(edited), true);
        due.is("reopen() twice", shape.reopen(), false);

        due.is("addVertex after reopen()", shape.addVertex(20, 5), 4);
        due.is("now crossing", shape.triangulate(), MonotoneTriang.RESULT_CROSSING);
        due.is("reopen() when failed", shape.reopen(), true);
        due.is("status()", shape.status(), MonotoneTriang.STATE_EDITING);
        due.is("removeLast after reopen()", shape.removeLast(), true);
        due.is("removeLast after reopen()", shape.removeLast(), true);
        due.is("triangulate()", shape.triangulate(), MonotoneTriang.RESULT_OK);
        due.is("one triangle", shape.triangleCount(), 1);
        due.is("its area", shape.triangleAreaSum(), 100);
    }
}
