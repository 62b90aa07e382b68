import java.util.List;

/** Puts the same calls to an object and to the reference, which must answer alike. */
final class Compared {
    private Compared() {
    }

    /** Appends and triangulates the list, and answers its corners as a name for it. */
    static String lists(Due due, List<int[]> corners, MonotoneTriang shape, Reference model) {
        StringBuilder list = new StringBuilder();
        for (int[] corner : corners) {
            list.append('(').append(corner[0]).append(", ").append(corner[1]).append(") ");
            due.is(list + "addVertex", shape.addVertex(corner[0], corner[1]),
                    model.addVertex(corner[0], corner[1]));
        }
        due.is(list + "triangulate()", shape.triangulate(), model.triangulate());
        getters(due, list.toString(), shape, model);
        return list.toString();
    }

    /** All answers of the getters that take no point. */
    static void getters(Due due, String name, MonotoneTriang shape, Reference model) {
        due.is(name + "status()", shape.status(), model.status());
        due.is(name + "vertexCount()", shape.vertexCount(), model.vertexCount());
        due.is(name + "area2()", shape.area2(), model.area2());
        due.is(name + "triangleCount()", shape.triangleCount(), model.triangleCount());
        due.is(name + "triangleAreaSum()", shape.triangleAreaSum(), model.triangleAreaSum());
        int n = model.vertexCount();
        for (int i = -1; i <= n; i++) {
            due.is(name + "vertexX(" + i + ")", shape.vertexX(i), model.vertexX(i));
            due.is(name + "vertexY(" + i + ")", shape.vertexY(i), model.vertexY(i));
            due.is(name + "vertexKind(" + i + ")", shape.vertexKind(i), model.vertexKind(i));
            for (int j = -1; j <= n; j++) {
                due.is(name + "isDiagonal(" + i + ", " + j + ")",
                        shape.isDiagonal(i, j), model.isDiagonal(i, j));
            }
        }
        for (int kind = -1; kind <= 6; kind++) {
            due.is(name + "kindCount(" + kind + ")", shape.kindCount(kind), model.kindCount(kind));
        }
    }

    /** The whole points of the grid from 0 to below the size, and of a frame around it. */
    static void grid(Due due, String name, MonotoneTriang shape, Reference model, int size) {
        for (int x = -1; x <= size; x++) {
            for (int y = -1; y <= size; y++) {
                point(due, name, shape, model, x, y);
            }
        }
    }

    static void point(
            Due due, String name, MonotoneTriang shape, Reference model, int x, int y) {
        due.is(name + "locate(" + x + ", " + y + ")", shape.locate(x, y), model.locate(x, y));
    }
}
