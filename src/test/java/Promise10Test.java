/** Promise 10, the doubled signed area, sentence by sentence. */
public final class Promise10Test {
    private static final Due due = new Due();

    public static void main(String[] args) {
        answersTheSum();
        theLastCornerIsJoinedToTheFirst();
        theGreatestSumFits();
        worksInAnyState();
        zeroWithoutCorners();
        zeroForOneOrTwoCorners();
        positiveIffCounterclockwise();
        neverZeroWhenReady();
        changesNothing();
        due.end();
    }

    private static void areaIs(String name, int want, int... coordinates) {
        due.is(name + ": area2()", Shapes.editing(coordinates).area2(), want);
    }

    private static void answersTheSum() {
        due.sentence("answers area2 of the current vertex list");
        for (int n = 0; n <= 32; n++) {
            areaIs(n + " corners", n == 0 ? 0 : (n - 2) * (n - 1) * n / 3, Shapes.convex(n));
        }
        areaIs("equal corners", 16, Shapes.REPEATED);
        MonotoneTriang shape = Shapes.editing(Shapes.SQUARE);
        shape.removeLast();
        due.is("one removed: area2()", shape.area2(), 100);
        shape.addVertex(0, 20);
        due.is("another appended: area2()", shape.area2(), 300);
    }

    private static void theLastCornerIsJoinedToTheFirst() {
        due.sentence("the sum over i in [0, n), with next(n - 1) = 0");
        // With corners at the origin in between, only the closing term is not zero.
        areaIs("closing term", -11, 3, 1, 0, 0, 1, 4);
        areaIs("closing term of four", 11, 1, 4, 0, 0, 0, 0, 3, 1);
    }

    private static void theGreatestSumFits() {
        due.sentence("every area named here fits in an int without wrapping");
        areaIs("whole plane", 8000000, Shapes.WHOLE_PLANE);
        areaIs("whole plane clockwise", -8000000, Shapes.reversed(Shapes.WHOLE_PLANE));
        int[] round = new int[64];
        for (int k = 0; k < 64; k++) {
            round[k] = Shapes.WHOLE_PLANE[k % 8];
        }
        areaIs("eight times round", 64000000, round);
        areaIs("eight times round clockwise", -64000000, Shapes.reversed(round));
    }

    private static void worksInAnyState() {
        due.sentence("It works in any state");
        int[][] lists = {Shapes.ALL_KINDS, Shapes.reversed(Shapes.SQUARE), Shapes.REPEATED,
            {0, 0, 4, 4, 4, 0, 0, 1}, {0, 0, 4, 0, 2, 0}, {700, -300, 12, 900}, {}};
        int[] areas = {124, -200, 16, -12, 0, 0, 0};
        int[] results = {0, 0, 3, 4, 4, 2, 2};
        for (int k = 0; k < lists.length; k++) {
            MonotoneTriang shape = Shapes.editing(lists[k]);
            due.is("list " + k + " editing: area2()", shape.area2(), areas[k]);
            due.is("list " + k + ": triangulate()", shape.triangulate(), results[k]);
            due.is("list " + k + " judged: area2()", shape.area2(), areas[k]);
            shape.reopen();
            due.is("list " + k + " reopened: area2()", shape.area2(), areas[k]);
        }
    }

    private static void zeroWithoutCorners() {
        due.sentence("It is 0 when n == 0");
        areaIs("new", 0);
        MonotoneTriang reset = Shapes.triangulated(Shapes.SQUARE);
        reset.reset();
        due.is("reset: area2()", reset.area2(), 0);
        due.is("failed: area2()", Shapes.triangulated().area2(), 0);
        MonotoneTriang emptied = Shapes.editing(700, -300);
        emptied.removeLast();
        due.is("emptied: area2()", emptied.area2(), 0);
    }

    private static void zeroForOneOrTwoCorners() {
        due.sentence("it is also 0 when n is 1 or 2");
        int[] values = {-1000, -7, 0, 3, 1000};
        for (int x : values) {
            for (int y : values) {
                areaIs("one corner", 0, x, y);
                areaIs("two corners", 0, x, y, y, 900);
                areaIs("two equal corners", 0, x, y, x, y);
            }
        }
        MonotoneTriang shape = Shapes.editing(Shapes.TRIANGLE);
        shape.removeLast();
        due.is("two of three: area2()", shape.area2(), 0);
        shape.removeLast();
        due.is("one of three: area2()", shape.area2(), 0);
    }

    private static void positiveIffCounterclockwise() {
        due.sentence("It is positive iff the corners run counterclockwise");
        int[][] counterclockwise = {Shapes.TRIANGLE, Shapes.SQUARE, Shapes.ALL_KINDS, Shapes.COMB,
            {0, 0, 1, 0, 0, 1}, {-1000, -1000, 1000, 999, 1000, 1000}};
        for (int[] list : counterclockwise) {
            for (int shift = 0; shift < list.length / 2; shift++) {
                int[] shifted = Shapes.shifted(list, shift);
                int area = Shapes.editing(shifted).area2();
                int turned = Shapes.editing(Shapes.reversed(shifted)).area2();
                due.is("counterclockwise: area2() > 0", area > 0, true);
                due.is("clockwise: area2()", turned, -area);
            }
        }
    }

    private static void neverZeroWhenReady() {
        due.sentence("In STATE_READY it is never 0");
        Situations.READY.forEach((name, maker) ->
                due.is(name + ": area2() is 0", maker.get().area2() == 0, false));
        MonotoneTriang least = Shapes.triangulated(-1000, -1000, 1000, 999, -999, -999);
        due.is("status()", least.status(), MonotoneTriang.STATE_READY);
        due.is("least area: area2()", least.area2(), 1);
    }

    private static void changesNothing() {
        due.sentence("It changes nothing");
        Twins.getterChangesNothing(due, "area2()");
    }
}
