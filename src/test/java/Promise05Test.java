/** Promise 5, triangulating, sentence by sentence. */
public final class Promise05Test {
    private static final Due due = new Due();
    private static final int OK = MonotoneTriang.RESULT_OK;
    private static final int TOO_FEW = MonotoneTriang.RESULT_TOO_FEW;
    private static final int REPEATED = MonotoneTriang.RESULT_REPEATED;
    private static final int CROSSING = MonotoneTriang.RESULT_CROSSING;

    public static void main(String[] args) {
        refusedOutsideEditing();
        fewerThanThreeAreTooFew();
        threeAreEnough();
        asManyAsFitAreNotTooMany();
        everyEqualPairIsRepeated();
        oneEqualCoordinateIsNotRepeated();
        overlappingAdjacentEdges();
        edgesSharingAPoint();
        edgesThatBarelyMiss();
        stateBecomesFailed();
        stateBecomesReady();
        kindsAndTriangulationAreFixed();
        listIsNeverChanged();
        capacityIsNotChanged();
        tooFewComesBeforeRepeated();
        repeatedComesBeforeCrossing();
        simpleListHasAnArea();
        due.end();
    }

    private static void judged(String name, int want, int... coordinates) {
        Judged.inEveryTurn(due, name, want, coordinates);
    }

    private static void refusedOutsideEditing() {
        due.sentence("the state is not STATE_EDITING: answers RESULT_NOT_EDITING"
                + " and changes nothing");
        Situations.NOT_EDITING.forEach((name, maker) -> {
            MonotoneTriang shape = maker.get();
            for (int again = 0; again < 3; again++) {
                due.is(name + ": triangulate()", shape.triangulate(), 1);
            }
            Twins.unchanged(due, name + ": triangulate()", maker, MonotoneTriang::triangulate);
        });
    }

    private static void fewerThanThreeAreTooFew() {
        due.sentence("n < 3: answers RESULT_TOO_FEW");
        judged("no corner", TOO_FEW);
        judged("one corner", TOO_FEW, 3, 5);
        judged("two corners", TOO_FEW, 3, 5, 7, 1);
        MonotoneTriang emptied = Shapes.editing(Shapes.TRIANGLE);
        emptied.removeLast();
        due.is("one of three removed: triangulate()", emptied.triangulate(), TOO_FEW);
        MonotoneTriang reset = Shapes.triangulated(Shapes.SQUARE);
        reset.reset();
        due.is("reset: triangulate()", reset.triangulate(), TOO_FEW);
    }

    private static void threeAreEnough() {
        due.sentence("n < 3: three corners are not too few");
        judged("triangle", OK, Shapes.TRIANGLE);
        judged("smallest triangle", OK, 0, 0, 1, 0, 0, 1);
        judged("three equal corners", REPEATED, 1, 1, 1, 1, 1, 1);
        judged("three corners on a line", CROSSING, 0, 0, 1, 1, 2, 2);
    }

    private static void asManyAsFitAreNotTooMany() {
        due.sentence("Otherwise the list is simple, also when n == capacity");
        for (int n = 4; n <= 32; n++) {
            MonotoneTriang full = Shapes.editingUpTo(n, Shapes.convex(n));
            due.is(n + " corners: triangulate()", full.triangulate(), OK);
            due.is(n + " corners: triangleCount()", full.triangleCount(), n - 2);
        }
        judged("comb", OK, Shapes.COMB);
    }

    private static void everyEqualPairIsRepeated() {
        due.sentence("two vertices have equal coordinates: answers RESULT_REPEATED");
        int[] counts = {3, 4, 5, 31, 32};
        for (int n : counts) {
            for (int i = 0; i < n; i++) {
                for (int j = i + 1; j < n; j++) {
                    int[] corners = Shapes.convex(n);
                    corners[2 * j] = corners[2 * i];
                    corners[2 * j + 1] = corners[2 * i + 1];
                    Judged.once(due, n + " corners, " + i + " = " + j, REPEATED, corners);
                }
            }
        }
    }

    private static void oneEqualCoordinateIsNotRepeated() {
        due.sentence("two vertices have equal coordinates: one equal coordinate is not enough");
        judged("equal x or equal y only", OK, 0, 0, 1, 0, 1, 1, 0, 1);
        judged("x and y swapped", OK, 2, 1, 1, 2, 2, 2);
        judged("opposite signs", OK, 1, 1, -1, 1, -1, -1, 1, -1);
        judged("the bounds", OK, Shapes.WHOLE_PLANE);
    }

    private static void overlappingAdjacentEdges() {
        due.sentence("adjacent edges overlap: answers RESULT_CROSSING");
        judged("level", CROSSING, Shapes.FOLDED);
        judged("upright", CROSSING, 5, 0, 5, 9, 5, 1);
        judged("slanted", CROSSING, 0, 0, 4, 2, 2, 1);
        judged("shortest", CROSSING, 0, 0, 1, 0, 2, 0);
        judged("longest", CROSSING, -1000, -1000, 999, 999, 1000, 1000);
        judged("fold in a longer list", CROSSING, 0, 0, 6, 0, 3, 0, 3, 5);
        due.sentence("adjacent edges overlap: dot must be positive for that");
        judged("flat corner", OK, 0, 0, 1, 0, 2, 0, 0, 1);
        judged("longest flat corner", OK, -1000, -1000, 999, 999, 1000, 1000, -1000, 1000);
        due.sentence("adjacent edges overlap: cross must be zero for that");
        judged("cross is 1", OK, -1000, -1000, 1000, 999, -999, -999);
        judged("cross is -1", OK, -1000, -1000, 1000, 999, 999, 998);
    }

    private static void edgesSharingAPoint() {
        due.sentence("two non-adjacent edges share a point: answers RESULT_CROSSING");
        judged("crossing between corners", CROSSING, Shapes.BOW_TIE);
        judged("crossing in a half point", CROSSING, 0, 0, 3, 1, 3, 0, 0, 1);
        judged("corner touches a level edge", CROSSING, 0, 0, 4, 0, 4, 4, 2, 0, 0, 4);
        judged("corner touches an upright edge", CROSSING, 0, 0, 0, 4, 4, 4, 0, 2, 4, 0);
        judged("corner touches a slanted edge", CROSSING, 0, 0, 8, 4, 8, 8, 4, 2, 0, 8);
        judged("edges overlap on a line", CROSSING, 0, 0, 6, 0, 6, 4, 4, 0, 2, 0, 0, 4);
        judged("edges overlap in part", CROSSING, 0, 0, 4, 0, 4, 3, 6, 3, 6, 0, 3, 0, 0, -3);
        judged("crossing by one unit", CROSSING,
                -1000, -1000, 1000, 999, 0, 1000, 999, 998, -1000, 0);
        int[] lastEdgeCrosses = Shapes.COMB.clone();
        lastEdgeCrosses[0] = -700;
        judged("one crossing in 32 edges", CROSSING, lastEdgeCrosses);
    }

    private static void edgesThatBarelyMiss() {
        due.sentence("two non-adjacent edges share a point: missing by one unit is no sharing");
        judged("corner above a level edge", OK, 0, 0, 4, 0, 4, 4, 2, 1, 0, 4);
        judged("corner beside an upright edge", OK, 0, 0, 0, 4, 4, 4, 1, 2, 4, 0);
        judged("cross is 1", OK, -1000, -1000, 1000, 999, 0, 1000, -999, -999, -1000, 0);
        judged("gap on a line", OK, 0, 0, 2, 0, 2, 1, 3, 1, 3, 0, 5, 0, 5, 3, 0, 3);
        judged("gap between level edges", OK, 0, 0, 9, 0, 9, 1, 1, 1, 1, 2, 9, 2, 9, 3, 0, 3);
        judged("end on the line of an edge", OK, 0, 0, 4, 0, 4, 4, 2, 4, 2, 2, 0, 2);
    }

    private static void stateBecomesFailed() {
        due.sentence("In cases 2 to 4 the state becomes STATE_FAILED");
        Situations.FAILED.forEach((name, maker) ->
                due.is(name + ": status()", maker.get().status(), MonotoneTriang.STATE_FAILED));
    }

    private static void stateBecomesReady() {
        due.sentence("The state becomes STATE_READY");
        Situations.READY.forEach((name, maker) ->
                due.is(name + ": status()", maker.get().status(), MonotoneTriang.STATE_READY));
    }

    private static void kindsAndTriangulationAreFixed() {
        due.sentence("the call fixes the kinds of all corners and a triangulation");
        Situations.READY.forEach((name, maker) -> {
            MonotoneTriang shape = maker.get();
            int n = shape.vertexCount();
            for (int i = 0; i < n; i++) {
                due.is(name + ": vertexKind(" + i + ") is one", shape.vertexKind(i) != 0, true);
            }
            due.is(name + ": triangleCount()", shape.triangleCount(), n - 2);
            due.is(name + ": area", shape.triangleAreaSum(), Math.abs(shape.area2()));
        });
    }

    private static void listIsNeverChanged() {
        due.sentence("The vertex list is never changed by this call, in any case");
        int[][] lists = {{}, {3, 5}, {3, 5, 7, 1}, Shapes.REPEATED, Shapes.FOLDED, Shapes.BOW_TIE,
            Shapes.TRIANGLE, Shapes.reversed(Shapes.TRIANGLE), Shapes.ALL_KINDS,
            Shapes.reversed(Shapes.ALL_KINDS), Shapes.COMB, Shapes.reversed(Shapes.COMB)};
        for (int[] list : lists) {
            MonotoneTriang shape = Shapes.triangulated(list);
            Corners.are(due, "once", shape, list);
            shape.triangulate();
            Corners.are(due, "twice", shape, list);
        }
    }

    private static void capacityIsNotChanged() {
        due.sentence("The capacity is not changed either");
        int[][] lists = {{}, {3, 5, 7, 1}, Shapes.REPEATED, Shapes.FOLDED, Shapes.BOW_TIE,
            Shapes.TRIANGLE, Shapes.SQUARE};
        for (int[] list : lists) {
            for (int capacity = 4; capacity <= 32; capacity++) {
                MonotoneTriang shape = Shapes.editingUpTo(capacity, list);
                shape.triangulate();
                shape.triangulate();
                shape.reopen();
                int left = capacity - list.length / 2;
                due.is("places left of " + capacity, Twins.capacityLeft(shape), left);
            }
        }
    }

    private static void tooFewComesBeforeRepeated() {
        due.sentence("conditions in this order: RESULT_TOO_FEW before RESULT_REPEATED");
        judged("two equal corners", TOO_FEW, 5, 5, 5, 5);
        judged("two equal corners at the origin", TOO_FEW, 0, 0, 0, 0);
    }

    private static void repeatedComesBeforeCrossing() {
        due.sentence("A list with n >= 3 and repeated corners answers RESULT_REPEATED"
                + " even if its edges also cross");
        judged("repeated and crossing", REPEATED, 0, 0, 4, 4, 4, 0, 0, 4, 0, 0);
        judged("repeated and folded", REPEATED, 0, 0, 4, 0, 2, 0, 4, 0);
        judged("back and forth", REPEATED, 0, 0, 4, 0, 0, 0);
        judged("repeated and touching", REPEATED, 0, 0, 4, 0, 4, 4, 2, 0, 0, 4, 2, 0);
    }

    private static void simpleListHasAnArea() {
        due.sentence("A simple list always has area2 != 0");
        int[][] lists = {{0, 0, 1, 0, 0, 1}, {0, 0, 0, 1, 1, 0},
            {-1000, -1000, 1000, 999, -999, -999}, {-1000, -1000, 1000, 999, 999, 998}};
        int[] areas = {1, -1, 1, -1};
        for (int k = 0; k < lists.length; k++) {
            MonotoneTriang shape = Shapes.editing(lists[k]);
            due.is("list " + k + ": triangulate()", shape.triangulate(), OK);
            due.is("list " + k + ": area2()", shape.area2(), areas[k]);
        }
        judged("area of zero by crossing", CROSSING, Shapes.BOW_TIE);
        judged("area of zero on a line", CROSSING, 0, 0, 3, 0, 1, 0, 2, 0);
    }
}
