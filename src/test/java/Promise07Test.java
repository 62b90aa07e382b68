/** Promise 7, the current state, sentence by sentence. */
public final class Promise07Test {
    private static final Due due = new Due();

    public static void main(String[] args) {
        answersTheState();
        followsTheState();
        changesNothing();
        due.end();
    }

    private static void answersTheState() {
        due.sentence("answers the current state: STATE_EDITING, STATE_READY or STATE_FAILED");
        Situations.EDITING.forEach((name, maker) ->
                due.is(name + ": status()", maker.get().status(), 0));
        Situations.READY.forEach((name, maker) ->
                due.is(name + ": status()", maker.get().status(), 1));
        Situations.FAILED.forEach((name, maker) ->
                due.is(name + ": status()", maker.get().status(), 2));
    }

    private static void followsTheState() {
        due.sentence("the current state, also after many changes of it");
        MonotoneTriang shape = Shapes.editing(Shapes.TRIANGLE);
        for (int round = 0; round < 3; round++) {
            shape.triangulate();
            due.is("ready: status()", shape.status(), 1);
            shape.reopen();
            due.is("reopened: status()", shape.status(), 0);
            shape.addVertex(0, 0);
            shape.triangulate();
            due.is("failed: status()", shape.status(), 2);
            shape.reopen();
            shape.removeLast();
            due.is("editing: status()", shape.status(), 0);
        }
    }

    private static void changesNothing() {
        due.sentence("It changes nothing");
        Twins.getterChangesNothing(due, "status()");
    }
}
