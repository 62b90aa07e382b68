/** Asks for the coordinates of all corners of a list. */
final class Corners {
    private Corners() {
    }

    static void are(Due due, String name, MonotoneTriang shape, int... coordinates) {
        due.is(name + ": vertexCount()", shape.vertexCount(), coordinates.length / 2);
        for (int i = 0; i < coordinates.length / 2; i++) {
            due.is(name + ": vertexX(" + i + ")", shape.vertexX(i), coordinates[2 * i]);
            due.is(name + ": vertexY(" + i + ")", shape.vertexY(i), coordinates[2 * i + 1]);
        }
    }
}
