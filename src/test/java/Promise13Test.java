/** Promise 13, the number of triangles, sentence by sentence. */
public final class Promise13Test {
    private static final Due due = new Due();

    public static void main(String[] args) {
        twoFewerThanCorners();
        theSameForEveryShape();
        notFromAnEarlierList();
        zeroWhenNotReady();
        changesNothing();
        due.end();
    }

    private static void countIs(String name, int want, int... coordinates) {
        due.is(name + ": triangleCount()", Shapes.triangulated(coordinates).triangleCount(), want);
        MonotoneTriang turned = Shapes.triangulated(Shapes.reversed(coordinates));
        due.is(name + " clockwise: triangleCount()", turned.triangleCount(), want);
    }

    private static void twoFewerThanCorners() {
        due.sentence("it answers the number of triangles of the triangulation, which is n - 2");
        for (int n = 3; n <= 32; n++) {
            countIs(n + " corners", n - 2, Shapes.convex(n));
        }
    }

    private static void theSameForEveryShape() {
        due.sentence("which is n - 2, with reflex and flat corners too");
        countIs("comb", 30, Shapes.COMB);
        countIs("all kinds", 8, Shapes.ALL_KINDS);
        countIs("flat corner", 2, 0, 0, 3, 0, 6, 0, 0, 6);
        countIs("flat corners on every side", 7,
                0, 0, 2, 0, 4, 0, 6, 0, 4, 2, 2, 4, 0, 6, 0, 4, 0, 2);
        countIs("least area", 1, -1000, -1000, 1000, 999, -999, -999);
        countIs("29 flat corners", 30, Shapes.FLAT);
    }

    private static void notFromAnEarlierList() {
        due.sentence("the triangulation of the present list, not of an earlier one");
        for (int n = 3; n < 32; n++) {
            due.is("shortened to " + n + ": triangleCount()",
                    Shapes.shortened(n).triangleCount(), n - 2);
        }
    }

    private static void zeroWhenNotReady() {
        due.sentence("Otherwise it answers 0");
        Situations.NOT_READY.forEach((name, maker) ->
                due.is(name + ": triangleCount()", maker.get().triangleCount(), 0));
    }

    private static void changesNothing() {
        due.sentence("It changes nothing");
        Twins.getterChangesNothing(due, "triangleCount()");
    }
}
