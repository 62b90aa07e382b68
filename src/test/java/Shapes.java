/** Objects filled with corners, and the polygons that several tests ask about. */
final class Shapes {
    static final int[] EXTREMES = {
        Integer.MIN_VALUE, Integer.MIN_VALUE + 1, -1001, -2, -1,
        32, 33, 1001, Integer.MAX_VALUE - 1, Integer.MAX_VALUE
    };

    /** Ints that would look small and harmless if some of their bits were lost. */
    static final int[] WRAPPING = {
        256, 258, -254, 65536, 65538, -65534, 1 << 30, (1 << 30) + 2, -(1 << 30),
        Integer.MIN_VALUE + 2, Integer.MIN_VALUE + 1000, Integer.MAX_VALUE - 1000
    };

    static final int[] TRIANGLE = {0, 0, 6, 0, 0, 6};
    static final int[] SQUARE = {0, 0, 10, 0, 10, 10, 0, 10};
    static final int[] BOW_TIE = {0, 0, 4, 4, 4, 0, 0, 4};
    static final int[] REPEATED = {0, 0, 4, 0, 4, 4, 0, 0};

    static final int[] FOLDED = {0, 0, 4, 0, 2, 0};
    static final int[] WHOLE_PLANE = {-1000, -1000, 1000, -1000, 1000, 1000, -1000, 1000};

    /** Counterclockwise, with 32 corners: a low bar with fifteen teeth, from right to left. */
    static final int[] COMB = comb();

    /** Counterclockwise, with 32 corners, all but the last on the side at the bottom. */
    static final int[] FLAT = flat();

    /** Counterclockwise, with corners of all five kinds. */
    static final int[] ALL_KINDS = {
        0, 0, 4, 0, 6, 2, 8, 0, 12, 0, 12, 8, 9, 3, 6, 8, 3, 3, 0, 8
    };

    private Shapes() {
    }

    private static int[] comb() {
        int[] corners = new int[64];
        corners[0] = -1000;
        corners[1] = -1000;
        corners[2] = 900;
        corners[3] = -1000;
        for (int i = 2; i < 32; i++) {
            corners[2 * i] = 900 - 60 * (i - 2);
            corners[2 * i + 1] = i % 2 == 0 ? -999 : 1000;
        }
        return corners;
    }

    private static int[] flat() {
        int[] corners = new int[64];
        for (int i = 0; i < 31; i++) {
            corners[2 * i] = i;
        }
        corners[63] = 1;
        return corners;
    }

    /** Counterclockwise, with n corners on a parabola: convex, and no two at one height. */
    static int[] convex(int n) {
        int[] corners = new int[2 * n];
        for (int i = 0; i < n; i++) {
            corners[2 * i] = i;
            corners[2 * i + 1] = i * i;
        }
        return corners;
    }

    static MonotoneTriang editing(int... coordinates) {
        return editingUpTo(MonotoneTriang.MAX_CAPACITY, coordinates);
    }

    static MonotoneTriang editingUpTo(int capacity, int... coordinates) {
        MonotoneTriang shape = new MonotoneTriang(capacity);
        append(shape, coordinates);
        return shape;
    }

    static void append(MonotoneTriang shape, int... coordinates) {
        for (int k = 0; k + 1 < coordinates.length; k += 2) {
            shape.addVertex(coordinates[k], coordinates[k + 1]);
        }
    }

    static MonotoneTriang triangulated(int... coordinates) {
        MonotoneTriang shape = editing(coordinates);
        shape.triangulate();
        return shape;
    }

    static MonotoneTriang reopened(int... coordinates) {
        MonotoneTriang shape = triangulated(coordinates);
        shape.reopen();
        return shape;
    }

    /** Ready with the corners of convex(n), after it was ready with those of convex(32). */
    static MonotoneTriang shortened(int n) {
        MonotoneTriang shape = reopened(convex(32));
        for (int left = 32; left > n; left--) {
            shape.removeLast();
        }
        shape.triangulate();
        return shape;
    }

    /** The same corners, beginning with another one. */
    static int[] shifted(int[] coordinates, int shift) {
        int[] moved = new int[coordinates.length];
        for (int k = 0; k < moved.length; k++) {
            moved[k] = coordinates[(k + 2 * shift) % moved.length];
        }
        return moved;
    }

    /** The same corners in the opposite sense of turning. */
    static int[] reversed(int... coordinates) {
        int n = coordinates.length / 2;
        int[] turned = new int[2 * n];
        for (int i = 0; i < n; i++) {
            turned[2 * i] = coordinates[2 * (n - 1 - i)];
            turned[2 * i + 1] = coordinates[2 * (n - 1 - i) + 1];
        }
        return turned;
    }

    /** Every answer of every getter that takes no point, as one text. */
    static String everything(MonotoneTriang shape) {
        StringBuilder all = new StringBuilder();
        all.append(shape.status()).append(' ').append(shape.vertexCount()).append(' ');
        all.append(shape.area2()).append(' ').append(shape.triangleCount()).append(' ');
        all.append(shape.triangleAreaSum()).append('\n');
        for (int i = -1; i <= MonotoneTriang.MAX_CAPACITY; i++) {
            all.append(shape.vertexX(i)).append(' ').append(shape.vertexY(i)).append(' ');
            all.append(shape.vertexKind(i)).append(' ').append(shape.kindCount(i)).append(' ');
            all.append(shape.locate(shape.vertexX(i), shape.vertexY(i))).append('\n');
            for (int j = -1; j <= MonotoneTriang.MAX_CAPACITY; j++) {
                all.append(shape.isDiagonal(i, j) ? '1' : '0');
            }
        }
        return all.toString();
    }
}
