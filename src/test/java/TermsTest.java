/** The document's terms, sentence by sentence, where an answer shows them. */
public final class TermsTest {
    private static final Due due = new Due();

    public static void main(String[] args) {
        nextOfTheLastIsTheFirst();
        prevOfTheFirstIsTheLast();
        lastAndFirstEdgeAreAdjacent();
        oppositeEdgesOfFourAreNotAdjacent();
        valuesFitInAnInt();
        equalHeightsAreOrderedBySide();
        simpleNeedsThreeVertices();
        simpleNeedsDifferentVertices();
        simpleAllowsStraightAnglesOnly();
        touchingCounts();
        boundaryIsAllEdges();
        interiorHasAnyNonzeroWinding();
        regionIsCutIntoTriangles();
        freshObjectIsEditing();
        refusedCallChangesNothing();
        gettersNeverChangeAnything();
        due.end();
    }

    private static void nextOfTheLastIsTheFirst() {
        due.sentence("next(i) = (i + 1) mod n");
        for (int n = 3; n <= 32; n++) {
            MonotoneTriang shape = Shapes.triangulated(Shapes.convex(n));
            due.is(n + " corners: isDiagonal(n - 1, 0)", shape.isDiagonal(n - 1, 0), false);
            due.is(n + " corners: vertexKind(n - 1)", shape.vertexKind(n - 1), 1);
        }
        MonotoneTriang square = Shapes.triangulated(Shapes.SQUARE);
        due.is("locate on the closing edge", square.locate(0, 4), MonotoneTriang.LOC_BOUNDARY);
    }

    private static void prevOfTheFirstIsTheLast() {
        due.sentence("prev(i) = (i + n - 1) mod n");
        for (int n = 3; n <= 32; n++) {
            MonotoneTriang shape = Shapes.triangulated(Shapes.convex(n));
            due.is(n + " corners: isDiagonal(0, n - 1)", shape.isDiagonal(0, n - 1), false);
            due.is(n + " corners: vertexKind(0)", shape.vertexKind(0), 3);
        }
    }

    private static void lastAndFirstEdgeAreAdjacent() {
        due.sentence("Edges e_i and e_j are adjacent iff j == next(i) or i == next(j):"
                + " their common corner is no crossing");
        for (int n = 3; n <= 32; n++) {
            Judged.once(due, n + " corners", 0, Shapes.convex(n));
        }
    }

    private static void oppositeEdgesOfFourAreNotAdjacent() {
        due.sentence("Edges e_i and e_j are adjacent iff j == next(i) or i == next(j):"
                + " no others are");
        Judged.once(due, "e_0 crosses e_2", 4, 0, 0, 4, 4, 4, 0, 0, 4);
        Judged.once(due, "e_1 crosses e_3", 4, 0, 0, 0, 4, 4, 0, 4, 4);
        Judged.once(due, "e_0 crosses e_3 of five", 4, 0, 0, 6, 0, 6, 6, 3, 6, 3, -3);
        Judged.once(due, "e_1 crosses e_4 of five", 4, 3, -3, 0, 0, 6, 0, 6, 6, 3, 6);
    }

    private static void valuesFitInAnInt() {
        due.sentence("all these values, and every area named here, fit in an int");
        MonotoneTriang plane = Shapes.triangulated(Shapes.WHOLE_PLANE);
        due.is("area2()", plane.area2(), 8000000);
        due.is("triangleAreaSum()", plane.triangleAreaSum(), 8000000);
        due.is("locate(0, 0)", plane.locate(0, 0), MonotoneTriang.LOC_INSIDE);
        due.is("isDiagonal(0, 2)", plane.isDiagonal(0, 2), true);
        due.is("isDiagonal(1, 3)", plane.isDiagonal(1, 3), true);
        Judged.once(due, "longest crossing", 4,
                -1000, -1000, 1000, 1000, 1000, -1000, -1000, 1000);
    }

    private static void equalHeightsAreOrderedBySide() {
        due.sentence("a is BELOW b iff a.y < b.y, or a.y == b.y and a.x > b.x");
        MonotoneTriang plane = Shapes.triangulated(Shapes.WHOLE_PLANE);
        int[] kinds = {5, 3, 5, 1};
        for (int i = 0; i < 4; i++) {
            due.is("vertexKind(" + i + ")", plane.vertexKind(i), kinds[i]);
        }
    }

    private static void simpleNeedsThreeVertices() {
        due.sentence("SIMPLE 1: n >= 3");
        Judged.once(due, "none", 2);
        Judged.once(due, "one", 2, 1, 1);
        Judged.once(due, "two", 2, 1, 1, 5, 1);
        Judged.once(due, "three", 0, 1, 1, 5, 1, 1, 5);
    }

    private static void simpleNeedsDifferentVertices() {
        due.sentence("SIMPLE 2: no two vertices have equal coordinates");
        Judged.once(due, "first and last", 3, 0, 0, 4, 0, 4, 4, 0, 4, 0, 0);
        Judged.once(due, "one apart", 0, 0, 0, 4, 0, 4, 4, 0, 4, 0, 1);
    }

    private static void simpleAllowsStraightAnglesOnly() {
        due.sentence("SIMPLE 3: NOT cross(v_i, a, b) == 0 and dot(v_i, a, b) > 0");
        Judged.inEveryTurn(due, "straight on", 0, 0, 0, 3, 0, 6, 0, 0, 6);
        Judged.inEveryTurn(due, "straight back", 4, 0, 0, 6, 0, 3, 0);
        Judged.inEveryTurn(due, "right angle", 0, 0, 0, 3, 0, 3, 3);
        Judged.inEveryTurn(due, "sharp, but not back", 0, 0, 0, 1000, 1, 999, 1);
    }

    private static void touchingCounts() {
        due.sentence("SIMPLE 4: closed segments; touching counts");
        Judged.inEveryTurn(due, "end on an edge", 4, 0, 0, 4, 0, 4, 4, 2, 0, 0, 4);
        Judged.inEveryTurn(due, "end off the edge", 0, 0, 0, 4, 0, 4, 4, 2, 1, 0, 4);
        Judged.inEveryTurn(due, "corner on an inner edge", 4,
                0, 0, 8, 0, 8, 8, 4, 4, 0, 8, 0, 4, 6, 4, 0, 2);
    }

    private static void boundaryIsAllEdges() {
        due.sentence("BOUNDARY: the union of all edges");
        MonotoneTriang triangle = Shapes.triangulated(0, 0, 4, 4, 0, 8);
        int[][] points = {{0, 0}, {2, 2}, {4, 4}, {2, 6}, {0, 8}, {0, 4}};
        for (int[] point : points) {
            due.is("locate(" + point[0] + ", " + point[1] + ")",
                    triangle.locate(point[0], point[1]), MonotoneTriang.LOC_BOUNDARY);
        }
    }

    private static void interiorHasAnyNonzeroWinding() {
        due.sentence("INTERIOR: nonzero winding number");
        MonotoneTriang once = Shapes.triangulated(Shapes.TRIANGLE);
        MonotoneTriang backwards = Shapes.triangulated(Shapes.reversed(Shapes.TRIANGLE));
        due.is("counterclockwise", once.locate(1, 1), MonotoneTriang.LOC_INSIDE);
        due.is("clockwise", backwards.locate(1, 1), MonotoneTriang.LOC_INSIDE);
        due.is("neither", once.locate(5, 5), MonotoneTriang.LOC_OUTSIDE);
    }

    private static void regionIsCutIntoTriangles() {
        due.sentence("TRIANGULATION: a set of n - 2 triangles whose union equals the REGION");
        Situations.READY.forEach((name, maker) -> {
            MonotoneTriang shape = maker.get();
            due.is(name + ": triangleCount()", shape.triangleCount(), shape.vertexCount() - 2);
            due.is(name + ": triangleAreaSum()",
                    shape.triangleAreaSum(), Math.abs(shape.area2()));
        });
    }

    private static void freshObjectIsEditing() {
        due.sentence("STATE_EDITING is the state of a fresh object");
        for (int capacity = 0; capacity <= 40; capacity++) {
            due.is("status()", new MonotoneTriang(capacity).status(), 0);
        }
    }

    private static void refusedCallChangesNothing() {
        due.sentence("A refused call changes nothing");
        Situations.NOT_EDITING.forEach((name, maker) -> Twins.unchanged(due, name, maker, shape -> {
            shape.addVertex(7, 70);
            shape.removeLast();
            shape.triangulate();
        }));
        Situations.EDITING.forEach((name, maker) -> Twins.unchanged(due, name, maker, shape -> {
            shape.reopen();
            shape.addVertex(-1001, 0);
            shape.addVertex(0, 1001);
        }));
    }

    private static void gettersNeverChangeAnything() {
        due.sentence("Getters never change anything");
        Situations.ALL.forEach((name, maker) -> Twins.unchanged(due, name, maker, shape -> {
            for (int again = 0; again < 3; again++) {
                Twins.GETTERS.values().forEach(getter -> getter.apply(shape));
            }
        }));
    }
}
