/** Promise 6, reopening, sentence by sentence. */
public final class Promise06Test {
    private static final Due due = new Due();

    public static void main(String[] args) {
        refusedWhileEditing();
        reopensReadyAndFailed();
        verticesAreKept();
        kindsAndTriangulationAreDropped();
        editingGoesOn();
        triangulateMayBeCalledAgain();
        due.end();
    }

    private static void refusedWhileEditing() {
        due.sentence("if the state is STATE_EDITING, it answers false and nothing changes");
        Situations.EDITING.forEach((name, maker) -> {
            due.is(name + ": reopen()", maker.get().reopen(), false);
            Twins.unchanged(due, name + ": reopen()", maker, shape -> shape.reopen());
        });
    }

    private static void reopensReadyAndFailed() {
        due.sentence("from STATE_READY or STATE_FAILED, the state becomes STATE_EDITING"
                + " and it answers true");
        Situations.NOT_EDITING.forEach((name, maker) -> {
            MonotoneTriang shape = maker.get();
            due.is(name + ": reopen()", shape.reopen(), true);
            due.is(name + ": status()", shape.status(), MonotoneTriang.STATE_EDITING);
            due.is(name + ": reopen() again", shape.reopen(), false);
        });
    }

    private static void verticesAreKept() {
        due.sentence("The vertices are kept: n and every v_i are the same as before");
        Situations.NOT_EDITING.forEach((name, maker) -> {
            MonotoneTriang before = maker.get();
            MonotoneTriang shape = maker.get();
            shape.reopen();
            due.is(name + ": vertexCount()", shape.vertexCount(), before.vertexCount());
            for (int i = 0; i < before.vertexCount(); i++) {
                due.is(name + ": vertexX(" + i + ")", shape.vertexX(i), before.vertexX(i));
                due.is(name + ": vertexY(" + i + ")", shape.vertexY(i), before.vertexY(i));
            }
        });
    }

    private static void kindsAndTriangulationAreDropped() {
        due.sentence("The kinds and the triangulation are dropped");
        int[][] lists = {Shapes.TRIANGLE, Shapes.SQUARE, Shapes.ALL_KINDS, Shapes.COMB,
            Shapes.BOW_TIE, {}};
        for (int[] list : lists) {
            // An object that never was triangulated has neither, and must look the same.
            Twins.alike(due, "reopened as never triangulated",
                    () -> Shapes.editing(list), () -> Shapes.reopened(list));
        }
    }

    private static void editingGoesOn() {
        due.sentence("After this, vertices may again be appended or removed");
        MonotoneTriang shape = Shapes.reopened(Shapes.SQUARE);
        due.is("addVertex", shape.addVertex(-5, 5), 4);
        due.is("removeLast()", shape.removeLast(), true);
        due.is("removeLast()", shape.removeLast(), true);
        due.is("vertexCount()", shape.vertexCount(), 3);
        MonotoneTriang failed = Shapes.reopened(3, 5, 7, 1);
        due.is("addVertex", failed.addVertex(9, 9), 2);
        due.is("removeLast()", failed.removeLast(), true);
        MonotoneTriang full = Shapes.reopened(Shapes.COMB);
        due.is("addVertex when full", full.addVertex(0, 0), -1);
        MonotoneTriang empty = Shapes.reopened();
        due.is("removeLast() when empty", empty.removeLast(), false);
    }

    private static void triangulateMayBeCalledAgain() {
        due.sentence("triangulate() may be called again");
        MonotoneTriang shape = Shapes.reopened(Shapes.SQUARE);
        due.is("ready again", shape.triangulate(), MonotoneTriang.RESULT_OK);
        due.is("triangleCount()", shape.triangleCount(), 2);
        shape.reopen();
        shape.addVertex(-5, 5);
        due.is("ready with one more", shape.triangulate(), MonotoneTriang.RESULT_OK);
        due.is("triangleCount()", shape.triangleCount(), 3);
        due.is("triangleAreaSum()", shape.triangleAreaSum(), 250);
        shape.reopen();
        shape.removeLast();
        shape.removeLast();
        due.is("ready with two fewer", shape.triangulate(), MonotoneTriang.RESULT_OK);
        due.is("triangleCount()", shape.triangleCount(), 1);
        shape.reopen();
        shape.removeLast();
        due.is("failed with too few", shape.triangulate(), MonotoneTriang.RESULT_TOO_FEW);
        shape.reopen();
        due.is("failed again", shape.triangulate(), MonotoneTriang.RESULT_TOO_FEW);
        shape.reopen();
        shape.addVertex(0, 7);
        due.is("ready once more", shape.triangulate(), MonotoneTriang.RESULT_OK);
        due.is("triangleAreaSum()", shape.triangleAreaSum(), 70);
    }
}
