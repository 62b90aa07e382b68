/** Promises 13 and 14: the number of triangles and their summed area. */
public final class TrianglesTest {
    private static final Due due = new Due();

    public static void main(String[] args) {
        trianglesOf("triangle", 1, 36, Shapes.TRIANGLE);
        trianglesOf("square", 2, 200, Shapes.SQUARE);
        trianglesOf("all kinds", 8, 124, Shapes.ALL_KINDS);
        trianglesOf("one flat corner", 2, 36, 0, 0, 3, 0, 6, 0, 0, 6);
        trianglesOf("flat corners on every side", 7, 36,
                0, 0, 2, 0, 4, 0, 6, 0, 4, 2, 2, 4, 0, 6, 0, 4, 0, 2);
        trianglesOf("corner on the line between two others", 4, 10,
                0, 0, 2, 0, 2, 1, 3, 2, 1, 2, 0, 3);
        trianglesOf("the whole plane", 2, 8000000, Shapes.WHOLE_PLANE);
        comb();
        spiral();
        notReady();
        due.end();
    }

    private static void trianglesOf(String name, int count, int area, int... coordinates) {
        trianglesOnce(name, count, area, Shapes.triangulated(coordinates));
        int[] turned = Shapes.reversed(coordinates);
        trianglesOnce(name + " clockwise", count, area, Shapes.triangulated(turned));
    }

    private static void trianglesOnce(String name, int count, int area, MonotoneTriang shape) {
        due.is(name + ": triangleCount()", shape.triangleCount(), count);
        due.is(name + ": triangleAreaSum()", shape.triangleAreaSum(), area);
        int signed = shape.area2();
        due.is(name + ": |area2()|", signed < 0 ? -signed : signed, area);
    }

    private static void comb() {
        MonotoneTriang shape = Shapes.editing(Shapes.COMB);
        due.is("comb: triangulate()", shape.triangulate(), MonotoneTriang.RESULT_OK);
        int area = shape.area2();
        trianglesOf("comb", 30, area < 0 ? -area : area, Shapes.COMB);
    }

    private static void spiral() {
        int[] corners = {0, 0, 20, 0, 20, 20, 2, 20, 2, 4, 16, 4, 16, 16, 6, 16, 6, 8, 12, 8,
            12, 12, 9, 12, 9, 11, 11, 11, 11, 9, 7, 9, 7, 15, 15, 15, 15, 5, 3, 5, 3, 19, 19, 19,
            19, 1, 0, 1};
        MonotoneTriang shape = Shapes.editing(corners);
        due.is("spiral: triangulate()", shape.triangulate(), MonotoneTriang.RESULT_OK);
        trianglesOf("spiral", 22, 2 * 121, corners);
    }

    private static void notReady() {
        MonotoneTriang shape = Shapes.editing(Shapes.SQUARE);
        noTriangles("editing", shape);
        shape.triangulate();
        shape.reopen();
        noTriangles("reopened", shape);
        shape.addVertex(20, 5);
        shape.triangulate();
        noTriangles("failed", shape);
        shape.reset();
        noTriangles("reset", shape);
        MonotoneTriang wiped = Shapes.triangulated(Shapes.SQUARE);
        wiped.reset();
        noTriangles("reset when ready", wiped);
        noTriangles("too few", Shapes.triangulated(0, 0, 1, 1));
    }

    private static void noTriangles(String name, MonotoneTriang shape) {
        due.is(name + ": triangleCount()", shape.triangleCount(), 0);
        due.is(name + ": triangleAreaSum()", shape.triangleAreaSum(), 0);
    }
}
