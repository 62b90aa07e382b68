/** Objects filled with corners, and the polygons that several tests ask about. */
final class Shapes {
    static final int[] EXTREMES = {
        Integer.MIN_VALUE, Integer.MIN_VALUE + 1, -1001, -2, -1,
        32, 33, 1001, Integer.MAX_VALUE - 1, Integer.MAX_VALUE
    };

    static final int[] TRIANGLE = {0, 0, 6, 0, 0, 6};
    static final int[] SQUARE = {0, 0, 10, 0, 10, 10, 0, 10};
    static final int[] BOW_TIE = {0, 0, 4, 4, 4, 0, 0, 4};
    static final int[] REPEATED = {0, 0, 4, 0, 4, 4, 0, 0};

    /** Counterclockwise, with corners of all five kinds. */
    static final int[] ALL_KINDS = {
        0, 0, 4, 0, 6, 2, 8, 0, 12, 0, 12, 8, 9, 3, 6, 8, 3, 3, 0, 8
    };

    private Shapes() {
    }

    static MonotoneTriang editing(int... coordinates) {
        MonotoneTriang shape = new MonotoneTriang(MonotoneTriang.MAX_CAPACITY);
        for (int k = 0; k + 1 < coordinates.length; k += 2) {
            shape.addVertex(coordinates[k], coordinates[k + 1]);
        }
        return shape;
    }

    static MonotoneTriang triangulated(int... coordinates) {
        MonotoneTriang shape = editing(coordinates);
        shape.triangulate();
        return shape;
    }

    /** The same corners in the opposite sense of turning. */
    static int[] reversed(int... coordinates) {
        int n = coordinates.length / 2;
        int[] turned = new int[2 * n];
        for (int i = 0; i < n; i++) {
            turned[2 * i] = coordinates[2 * (n - 1 - i)];
            turned[2 * i + 1] = coordinates[2 * (n - 1 - i) + 1];
        }
        return turned;
    }

    /** Every answer of every getter that takes no point, as one text. */
    static String everything(MonotoneTriang shape) {
        StringBuilder all = new StringBuilder();
        all.append(shape.status()).append(' ').append(shape.vertexCount()).append(' ');
        all.append(shape.area2()).append(' ').append(shape.triangleCount()).append(' ');
        all.append(shape.triangleAreaSum()).append('\n');
        for (int i = -1; i <= MonotoneTriang.MAX_CAPACITY; i++) {
            all.append(shape.vertexX(i)).append(' ').append(shape.vertexY(i)).append(' ');
            all.append(shape.vertexKind(i)).append(' ').append(shape.kindCount(i)).append(' ');
            all.append(shape.locate(shape.vertexX(i), shape.vertexY(i))).append('\n');
            for (int j = -1; j <= MonotoneTriang.MAX_CAPACITY; j++) {
                all.append(shape.isDiagonal(i, j) ? '1' : '0');
            }
        }
        return all.toString();
    }
}
