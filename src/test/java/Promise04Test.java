/** Promise 4, reset, sentence by sentence. */
public final class Promise04Test {
    private static final Due due = new Due();

    public static void main(String[] args) {
        worksInAnyState();
        kindsAndTriangulationAreGone();
        capacityIsKept();
        emptyObjectIsLeftAsItWas();
        due.end();
    }

    private static void worksInAnyState() {
        due.sentence("works in any state. It sets n = 0 and the state to STATE_EDITING");
        Situations.ALL.forEach((name, maker) -> {
            MonotoneTriang shape = maker.get();
            shape.reset();
            due.is(name + ": status()", shape.status(), MonotoneTriang.STATE_EDITING);
            due.is(name + ": vertexCount()", shape.vertexCount(), 0);
            due.is(name + ": reopen() has nothing to reopen", shape.reopen(), false);
            due.is(name + ": removeLast() has nothing to remove", shape.removeLast(), false);
            due.is(name + ": addVertex", shape.addVertex(1, 2), 0);
        });
    }

    private static void kindsAndTriangulationAreGone() {
        due.sentence("Any kinds and any triangulation are gone");
        Situations.READY.forEach((name, maker) -> {
            MonotoneTriang shape = maker.get();
            shape.reset();
            noResults(name + " reset", shape);
            // The same corners again: the old answers must not come back by themselves.
            MonotoneTriang old = maker.get();
            for (int i = 0; i < old.vertexCount(); i++) {
                shape.addVertex(old.vertexX(i), old.vertexY(i));
            }
            noResults(name + " filled again", shape);
        });
    }

    private static void noResults(String name, MonotoneTriang shape) {
        for (int i = 0; i < 32; i++) {
            due.is(name + ": vertexKind(" + i + ")", shape.vertexKind(i), 0);
            due.is(name + ": kindCount(" + i + ")", shape.kindCount(i), 0);
            due.is(name + ": isDiagonal(0, " + i + ")", shape.isDiagonal(0, i), false);
        }
        due.is(name + ": triangleCount()", shape.triangleCount(), 0);
        due.is(name + ": triangleAreaSum()", shape.triangleAreaSum(), 0);
        due.is(name + ": locate(1, 1)", shape.locate(1, 1), MonotoneTriang.LOC_NONE);
    }

    private static void capacityIsKept() {
        due.sentence("The capacity is kept");
        for (int capacity = 4; capacity <= 32; capacity++) {
            MonotoneTriang shape = Shapes.editingUpTo(capacity, Shapes.TRIANGLE);
            shape.reset();
            due.is("reset while editing", Twins.capacityLeft(shape), capacity);
            shape.triangulate();
            shape.reset();
            due.is("reset when failed", Twins.capacityLeft(shape), capacity);
            shape.reset();
            shape.addVertex(0, 0);
            shape.addVertex(5, 0);
            shape.addVertex(0, 5);
            shape.triangulate();
            shape.reset();
            due.is("reset when ready", Twins.capacityLeft(shape), capacity);
        }
    }

    private static void emptyObjectIsLeftAsItWas() {
        due.sentence("Calling it on an object that is already editing with n = 0"
                + " leaves the object as it was");
        for (int capacity = 4; capacity <= 32; capacity++) {
            int fits = capacity;
            Twins.unchanged(due, "reset()", () -> new MonotoneTriang(fits), MonotoneTriang::reset);
        }
    }
}
