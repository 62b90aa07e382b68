/** Promise 2, appending a corner, sentence by sentence. */
public final class Promise02Test {
    private static final Due due = new Due();

    public static void main(String[] args) {
        refusedOutsideEditing();
        refusedWhenFull();
        refusedOutOfBounds();
        everyCoordinateInBoundsIsAccepted();
        theBoundsThemselvesAreAccepted();
        answersTheOldCount();
        earlierCornersAreKept();
        stateStaysEditing();
        equalCornersAreAccepted();
        collinearCornersAreAccepted();
        due.end();
    }

    private static void refused(MonotoneTriang shape, String name, int x, int y) {
        due.is(name + ": addVertex(" + x + ", " + y + ")", shape.addVertex(x, y), -1);
    }

    private static void refusedOutsideEditing() {
        due.sentence("the state is not STATE_EDITING: answers -1; nothing changes");
        Situations.NOT_EDITING.forEach((name, maker) -> {
            refused(maker.get(), name, 3, 20);
            refused(maker.get(), name, 1001, 20);
            Twins.unchanged(due, name + ": addVertex", maker, shape -> shape.addVertex(3, 20));
        });
    }

    private static void refusedWhenFull() {
        due.sentence("n == capacity: answers -1; nothing changes");
        for (int capacity = 4; capacity <= 32; capacity++) {
            int[] corners = Shapes.convex(capacity);
            int fits = capacity;
            MonotoneTriang shape = Shapes.editingUpTo(fits, corners);
            for (int again = 0; again < 3; again++) {
                refused(shape, "capacity " + capacity, 40, 40);
                refused(shape, "capacity " + capacity, 40, 1001);
            }
            due.is("vertexCount()", shape.vertexCount(), capacity);
            Twins.unchanged(due, "capacity " + capacity + ": addVertex",
                    () -> Shapes.editingUpTo(fits, corners), full -> full.addVertex(40, 40));
        }
        MonotoneTriang almostFull = Shapes.editingUpTo(5, Shapes.SQUARE);
        due.is("one place left: addVertex", almostFull.addVertex(-5, 5), 4);
    }

    private static void refusedOutOfBounds() {
        due.sentence("x or y lies outside [COORD_MIN, COORD_MAX]: answers -1; nothing changes");
        for (int beyond = 1001; beyond <= 1300; beyond++) {
            refusedAsEither(beyond);
            refusedAsEither(-beyond);
        }
        for (int k = 10; k < 31; k++) {
            refusedAsEither(1 << k);
            refusedAsEither(-(1 << k));
            refusedAsEither((1 << k) + 1000);
            refusedAsEither(-(1 << k) - 1000);
        }
        int[] far = {Integer.MIN_VALUE, Integer.MIN_VALUE + 1, Integer.MIN_VALUE + 1000,
            Integer.MAX_VALUE - 1000, Integer.MAX_VALUE - 1, Integer.MAX_VALUE};
        for (int out : far) {
            refusedAsEither(out);
        }
    }

    private static void refusedAsEither(int out) {
        MonotoneTriang shape = Shapes.editing(3, 5);
        int[] others = {-1000, 0, 1000, out};
        for (int other : others) {
            refused(shape, "x is out", out, other);
            refused(shape, "y is out", other, out);
        }
        Twins.unchanged(due, "addVertex(" + out + ", 0)",
                () -> Shapes.editing(3, 5), one -> one.addVertex(out, 0));
        Twins.unchanged(due, "addVertex(0, " + out + ")",
                () -> Shapes.editing(3, 5), one -> one.addVertex(0, out));
    }

    private static void everyCoordinateInBoundsIsAccepted() {
        due.sentence("Otherwise it appends the vertex");
        MonotoneTriang shape = new MonotoneTriang(4);
        for (int value = -1000; value <= 1000; value++) {
            shape.reset();
            due.is("addVertex(" + value + ", 7)", shape.addVertex(value, 7), 0);
            due.is("addVertex(7, " + value + ")", shape.addVertex(7, value), 1);
            due.is("vertexX(0)", shape.vertexX(0), value);
            due.is("vertexY(0)", shape.vertexY(0), 7);
            due.is("vertexX(1)", shape.vertexX(1), 7);
            due.is("vertexY(1)", shape.vertexY(1), value);
        }
    }

    private static void theBoundsThemselvesAreAccepted() {
        due.sentence("The bounds -1000 and 1000 themselves are accepted");
        int[] bounds = {-1000, 1000};
        for (int x : bounds) {
            for (int y : bounds) {
                MonotoneTriang shape = new MonotoneTriang(4);
                due.is("addVertex(" + x + ", " + y + ")", shape.addVertex(x, y), 0);
                due.is("vertexX(0)", shape.vertexX(0), x);
                due.is("vertexY(0)", shape.vertexY(0), y);
            }
        }
    }

    private static void answersTheOldCount() {
        due.sentence("n grows by 1. It answers the new index, which is the old n");
        MonotoneTriang shape = new MonotoneTriang(32);
        for (int n = 0; n < 32; n++) {
            due.is("addVertex number " + n, shape.addVertex(n, -n), n);
            due.is("vertexCount()", shape.vertexCount(), n + 1);
        }
    }

    private static void earlierCornersAreKept() {
        due.sentence("The earlier vertices keep their indices and coordinates");
        MonotoneTriang shape = new MonotoneTriang(32);
        for (int n = 0; n < 32; n++) {
            shape.addVertex(n - 500, 1000 - n);
            for (int i = 0; i <= n; i++) {
                due.is("vertexX(" + i + ") of " + (n + 1), shape.vertexX(i), i - 500);
                due.is("vertexY(" + i + ") of " + (n + 1), shape.vertexY(i), 1000 - i);
            }
        }
    }

    private static void stateStaysEditing() {
        due.sentence("the state stays STATE_EDITING");
        MonotoneTriang shape = new MonotoneTriang(32);
        for (int n = 0; n < 40; n++) {
            shape.addVertex(n, n * n % 11);
            due.is("status()", shape.status(), MonotoneTriang.STATE_EDITING);
        }
    }

    private static void equalCornersAreAccepted() {
        due.sentence("Equal or collinear vertices are accepted here: equal ones");
        MonotoneTriang shape = new MonotoneTriang(32);
        for (int n = 0; n < 32; n++) {
            due.is("addVertex(5, 5)", shape.addVertex(5, 5), n);
        }
        due.is("vertexX(31)", shape.vertexX(31), 5);
    }

    private static void collinearCornersAreAccepted() {
        due.sentence("Equal or collinear vertices are accepted here: collinear ones");
        MonotoneTriang shape = new MonotoneTriang(32);
        for (int n = 0; n < 32; n++) {
            int place = n % 2 == 0 ? n : -n;
            due.is("addVertex on a line", shape.addVertex(place, 3 * place), n);
        }
        due.is("vertexY(31)", shape.vertexY(31), -93);
    }
}
