/** Asks triangulate() about a list of corners. */
final class Judged {
    private Judged() {
    }

    /** In both senses of turning and from every first corner, as the answer must be the same. */
    static void inEveryTurn(Due due, String name, int want, int... coordinates) {
        int[] turned = Shapes.reversed(coordinates);
        int turns = Math.max(1, coordinates.length / 2);
        for (int shift = 0; shift < turns; shift++) {
            String from = " from corner " + shift;
            once(due, name + from, want, Shapes.shifted(coordinates, shift));
            once(due, name + " reversed" + from, want, Shapes.shifted(turned, shift));
        }
    }

    static void once(Due due, String name, int want, int... coordinates) {
        MonotoneTriang shape = Shapes.editing(coordinates);
        due.is(name + ": triangulate()", shape.triangulate(), want);
        int state = want == MonotoneTriang.RESULT_OK
                ? MonotoneTriang.STATE_READY : MonotoneTriang.STATE_FAILED;
        due.is(name + ": status()", shape.status(), state);
    }
}
