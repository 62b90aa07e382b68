/** Promise 1, construction, sentence by sentence. */
public final class Promise01Test {
    private static final Due due = new Due();

    public static void main(String[] args) {
        belowFourBecomesFour();
        aboveThirtyTwoBecomesThirtyTwo();
        fourToThirtyTwoIsKept();
        newObjectIsEditingAndEmpty();
        newObjectHasNoKindsAndNoTriangulation();
        capacityNeverChanges();
        due.end();
    }

    private static void capacityIs(int argument, int capacity) {
        int appended = Twins.capacityLeft(new MonotoneTriang(argument));
        due.is("corners that MonotoneTriang(" + argument + ") takes", appended, capacity);
    }

    private static void belowFourBecomesFour() {
        due.sentence("An argument below 4 becomes 4, including every negative value"
                + " and Integer.MIN_VALUE");
        for (int argument = -300; argument < 4; argument++) {
            capacityIs(argument, 4);
        }
        int[] far = {Integer.MIN_VALUE, Integer.MIN_VALUE + 1, Integer.MIN_VALUE + 16,
            -(1 << 30), -65536, -65536 + 16, -1000};
        for (int argument : far) {
            capacityIs(argument, 4);
        }
    }

    private static void aboveThirtyTwoBecomesThirtyTwo() {
        due.sentence("An argument above 32 becomes 32, including Integer.MAX_VALUE");
        for (int argument = 33; argument <= 300; argument++) {
            capacityIs(argument, 32);
        }
        int[] far = {1000, 65536, 65536 + 16, 1 << 30, Integer.MAX_VALUE - 1, Integer.MAX_VALUE};
        for (int argument : far) {
            capacityIs(argument, 32);
        }
    }

    private static void fourToThirtyTwoIsKept() {
        due.sentence("An argument in [4, 32] is kept as it is");
        for (int argument = 4; argument <= 32; argument++) {
            capacityIs(argument, argument);
        }
    }

    private static void newObjectIsEditingAndEmpty() {
        due.sentence("The new object is in STATE_EDITING with n = 0");
        int[] arguments = {Integer.MIN_VALUE, 0, 4, 17, 32, Integer.MAX_VALUE};
        for (int argument : arguments) {
            String name = "MonotoneTriang(" + argument + "): ";
            due.is(name + "status()", new MonotoneTriang(argument).status(), 0);
            due.is(name + "vertexCount()", new MonotoneTriang(argument).vertexCount(), 0);
            due.is(name + "area2()", new MonotoneTriang(argument).area2(), 0);
        }
    }

    private static void newObjectHasNoKindsAndNoTriangulation() {
        due.sentence("There are no kinds and no triangulation");
        MonotoneTriang shape = new MonotoneTriang(32);
        for (int i = -1; i <= 32; i++) {
            due.is("vertexKind(" + i + ")", shape.vertexKind(i), MonotoneTriang.KIND_NONE);
            due.is("kindCount(" + i + ")", shape.kindCount(i), 0);
        }
        due.is("triangleCount()", shape.triangleCount(), 0);
        due.is("triangleAreaSum()", shape.triangleAreaSum(), 0);
        due.is("locate(0, 0)", shape.locate(0, 0), MonotoneTriang.LOC_NONE);
        due.is("isDiagonal(0, 0)", shape.isDiagonal(0, 0), false);
    }

    private static void capacityNeverChanges() {
        due.sentence("The capacity never changes after construction");
        for (int capacity = 4; capacity <= 32; capacity++) {
            String name = "capacity " + capacity + ": ";
            MonotoneTriang shape = Shapes.editingUpTo(capacity, Shapes.convex(capacity));
            due.is(name + "full", Twins.capacityLeft(shape), 0);
            shape.triangulate();
            shape.reopen();
            due.is(name + "reopened when ready", Twins.capacityLeft(shape), 0);
            shape.removeLast();
            shape.removeLast();
            due.is(name + "two removed", Twins.capacityLeft(shape), 2);
            shape.reset();
            due.is(name + "reset", Twins.capacityLeft(shape), capacity);
            shape.triangulate();
            shape.reopen();
            due.is(name + "reopened when failed", Twins.capacityLeft(shape), 0);
            shape.triangulate();
            shape.reset();
            due.is(name + "reset when failed", Twins.capacityLeft(shape), capacity);
        }
    }
}
