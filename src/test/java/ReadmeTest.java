/** The example in README.md, call by call, with the answers that its comments tell. */
public final class ReadmeTest {
    private static final Due due = new Due();

    public static void main(String[] args) {
        MonotoneTriang square = new MonotoneTriang(8);
        due.is("addVertex(0, 0)", square.addVertex(0, 0), 0);
        due.is("addVertex(10, 0)", square.addVertex(10, 0), 1);
        due.is("addVertex(10, 10)", square.addVertex(10, 10), 2);
        due.is("addVertex(0, 10)", square.addVertex(0, 10), 3);
        due.is("triangulate()", square.triangulate(), MonotoneTriang.RESULT_OK);
        due.is("triangleCount()", square.triangleCount(), 2);
        due.is("triangleAreaSum()", square.triangleAreaSum(), 200);
        due.is("vertexKind(3)", square.vertexKind(3), MonotoneTriang.KIND_START);
        due.is("locate(5, 5)", square.locate(5, 5), MonotoneTriang.LOC_INSIDE);
        due.is("isDiagonal(0, 2)", square.isDiagonal(0, 2), true);
        due.is("addVertex(5, 20) when ready", square.addVertex(5, 20), -1);
        due.is("reopen()", square.reopen(), true);
        due.is("addVertex(5, 20) once reopened", square.addVertex(5, 20), 4);
        due.is("triangulate() of what crosses", square.triangulate(),
                MonotoneTriang.RESULT_CROSSING);
        due.is("status()", square.status(), MonotoneTriang.STATE_FAILED);
        due.end();
    }
}
