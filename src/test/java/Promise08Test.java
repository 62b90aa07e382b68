/** Promise 8, the number of corners, sentence by sentence. */
public final class Promise08Test {
    private static final Due due = new Due();

    public static void main(String[] args) {
        answersTheCount();
        worksInAnyState();
        staysBetweenZeroAndTheCapacity();
        changesNothing();
        due.end();
    }

    private static void answersTheCount() {
        due.sentence("answers n, the number of stored vertices");
        for (int n = 0; n <= 32; n++) {
            due.is(n + " corners: vertexCount()",
                    Shapes.editing(Shapes.convex(n)).vertexCount(), n);
        }
    }

    private static void worksInAnyState() {
        due.sentence("It works in any state");
        for (int n = 0; n <= 32; n++) {
            MonotoneTriang shape = Shapes.triangulated(Shapes.convex(n));
            due.is(n + " corners judged: vertexCount()", shape.vertexCount(), n);
            shape.reopen();
            due.is(n + " corners reopened: vertexCount()", shape.vertexCount(), n);
        }
        due.is("repeated", Shapes.triangulated(Shapes.REPEATED).vertexCount(), 4);
        due.is("folded", Shapes.triangulated(Shapes.FOLDED).vertexCount(), 3);
        due.is("bow tie", Shapes.triangulated(Shapes.BOW_TIE).vertexCount(), 4);
    }

    private static void staysBetweenZeroAndTheCapacity() {
        due.sentence("The answer always lies in [0, capacity]");
        for (int capacity = 4; capacity <= 32; capacity++) {
            MonotoneTriang shape = new MonotoneTriang(capacity);
            for (int more = 0; more < 40; more++) {
                shape.addVertex(more, more * more % 7);
                due.is("vertexCount()", shape.vertexCount(), Math.min(more + 1, capacity));
            }
            for (int fewer = 1; fewer < 40; fewer++) {
                shape.removeLast();
                due.is("vertexCount()", shape.vertexCount(), Math.max(0, capacity - fewer));
            }
        }
    }

    private static void changesNothing() {
        due.sentence("It changes nothing");
        Twins.getterChangesNothing(due, "vertexCount()");
    }
}
