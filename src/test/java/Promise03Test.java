/** Promise 3, removing the last corner, sentence by sentence. */
public final class Promise03Test {
    private static final Due due = new Due();

    public static void main(String[] args) {
        refusedOutsideEditing();
        refusedWhenEmpty();
        removesOne();
        remainingCornersAreKept();
        stateStaysEditing();
        freedIndexIsReused();
        due.end();
    }

    private static void refusedOutsideEditing() {
        due.sentence("the state is not STATE_EDITING: answers false; nothing changes");
        Situations.NOT_EDITING.forEach((name, maker) -> {
            due.is(name + ": removeLast()", maker.get().removeLast(), false);
            Twins.unchanged(due, name + ": removeLast()", maker, shape -> shape.removeLast());
        });
    }

    private static void refusedWhenEmpty() {
        due.sentence("n == 0: answers false; nothing changes");
        MonotoneTriang reset = Shapes.triangulated(Shapes.SQUARE);
        reset.reset();
        MonotoneTriang emptied = Shapes.editing(3, 5, 7, 1);
        emptied.removeLast();
        emptied.removeLast();
        MonotoneTriang reopened = Shapes.reopened();
        MonotoneTriang[] shapes = {new MonotoneTriang(4), reset, emptied, reopened};
        for (MonotoneTriang shape : shapes) {
            for (int again = 0; again < 3; again++) {
                due.is("removeLast()", shape.removeLast(), false);
                due.is("vertexCount()", shape.vertexCount(), 0);
            }
            due.is("addVertex", shape.addVertex(6, 7), 0);
            due.is("vertexX(0)", shape.vertexX(0), 6);
        }
        Twins.unchanged(due, "removeLast()",
                () -> new MonotoneTriang(5), shape -> shape.removeLast());
    }

    private static void removesOne() {
        due.sentence("Otherwise n decreases by 1 and it answers true");
        MonotoneTriang shape = Shapes.editing(Shapes.COMB);
        for (int n = 31; n >= 0; n--) {
            due.is("removeLast()", shape.removeLast(), true);
            due.is("vertexCount()", shape.vertexCount(), n);
        }
    }

    private static void remainingCornersAreKept() {
        due.sentence("All remaining vertices keep their indices and coordinates");
        MonotoneTriang shape = Shapes.editing(Shapes.COMB);
        for (int n = 31; n >= 0; n--) {
            shape.removeLast();
            for (int i = 0; i < n; i++) {
                due.is("vertexX(" + i + ") of " + n, shape.vertexX(i), Shapes.COMB[2 * i]);
                due.is("vertexY(" + i + ") of " + n, shape.vertexY(i), Shapes.COMB[2 * i + 1]);
            }
        }
    }

    private static void stateStaysEditing() {
        due.sentence("the state stays STATE_EDITING");
        MonotoneTriang shape = Shapes.editing(Shapes.SQUARE);
        for (int again = 0; again < 6; again++) {
            shape.removeLast();
            due.is("status()", shape.status(), MonotoneTriang.STATE_EDITING);
        }
    }

    private static void freedIndexIsReused() {
        due.sentence("A later addVertex call reuses the freed index");
        for (int n = 1; n <= 32; n++) {
            MonotoneTriang shape = Shapes.editingUpTo(n, Shapes.convex(n));
            shape.removeLast();
            due.is("addVertex after removeLast()", shape.addVertex(-9, -8), n - 1);
            due.is("vertexX", shape.vertexX(n - 1), -9);
            due.is("vertexY", shape.vertexY(n - 1), -8);
            due.is("vertexCount()", shape.vertexCount(), n);
        }
    }
}
