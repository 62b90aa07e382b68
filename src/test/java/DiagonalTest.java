/** Promise 16: which pairs of corners are interior diagonals. */
public final class DiagonalTest {
    private static final Due due = new Due();

    public static void main(String[] args) {
        diagonalsOf("triangle", "", Shapes.TRIANGLE);
        diagonalsOf("square", "0-2 1-3", Shapes.SQUARE);
        diagonalsOf("dart", "0-2", 0, 0, 6, 0, 3, 2, 0, 6);
        diagonalsOf("dart with odd middles", "0-2", 0, 0, 5, -2, 1, 0, 5, 3);
        diagonalsOf("convex pentagon", "0-2 0-3 1-3 1-4 2-4", 0, 0, 4, 0, 4, 4, 2, 4, 0, 2);
        diagonalsOf("flat corner", "1-3", 0, 0, 3, 0, 6, 0, 0, 6);
        diagonalsOf("two flat corners on one side", "1-4 2-4", 0, 0, 2, 0, 4, 0, 6, 0, 3, 5);
        diagonalsOf("flat corners on two sides", "0-3 1-3 1-4", 0, 0, 3, 0, 6, 0, 3, 3, 0, 6);
        diagonalsOf("along the sides", "0-2 0-3 1-5 2-5 3-5", 0, 0, 4, 0, 3, 1, 2, 2, 0, 4, 0, 3);
        diagonalsOf("through a reflex corner", "0-3 1-3", 0, 0, 8, 0, 8, 4, 4, 2, 0, 4);
        // 2-6 runs along the edge from 2 to 3 and then through the interior.
        diagonalsOf("along an edge", "0-2 0-3 0-4 0-5 1-3 1-6 3-5 3-6 4-6",
                0, 0, 6, 0, 6, 2, 3, 2, 3, 4, 1, 4, 0, 2);
        diagonalsOf("across a notch", "0-4 0-5 0-6 0-7 1-3 1-4 1-5 2-4 5-7 5-8",
                0, 0, 9, 0, 9, 9, 6, 9, 6, 4, 3, 4, 3, 9, 1, 9, 0, 9);
        wrongArguments();
        notReady();
        due.end();
    }

    private static void diagonalsOf(String name, String wanted, int... coordinates) {
        int n = coordinates.length / 2;
        boolean[] set = new boolean[n * n];
        for (String pair : wanted.split(" ")) {
            if (!pair.isEmpty()) {
                String[] ends = pair.split("-");
                int i = Integer.parseInt(ends[0]);
                int j = Integer.parseInt(ends[1]);
                set[i * n + j] = true;
                set[j * n + i] = true;
            }
        }
        MonotoneTriang shape = Shapes.triangulated(coordinates);
        MonotoneTriang turned = Shapes.triangulated(Shapes.reversed(coordinates));
        for (int i = 0; i < n; i++) {
            for (int j = 0; j < n; j++) {
                String call = name + ": isDiagonal(" + i + ", " + j + ")";
                due.is(call, shape.isDiagonal(i, j), set[i * n + j]);
                boolean got = turned.isDiagonal(n - 1 - i, n - 1 - j);
                due.is(call + " clockwise", got, set[i * n + j]);
            }
        }
    }

    private static void wrongArguments() {
        MonotoneTriang shape = Shapes.triangulated(Shapes.ALL_KINDS);
        shape.reopen();
        shape.removeLast();
        shape.triangulate();
        for (int i = -1; i <= 32; i++) {
            due.is("isDiagonal(" + i + ", n)", shape.isDiagonal(i, 9), false);
            due.is("isDiagonal(n, " + i + ")", shape.isDiagonal(9, i), false);
            for (int wrong : Shapes.EXTREMES) {
                due.is("isDiagonal(" + i + ", " + wrong + ")", shape.isDiagonal(i, wrong), false);
                due.is("isDiagonal(" + wrong + ", " + i + ")", shape.isDiagonal(wrong, i), false);
            }
        }
        for (int one : Shapes.EXTREMES) {
            for (int two : Shapes.EXTREMES) {
                due.is("isDiagonal(" + one + ", " + two + ")", shape.isDiagonal(one, two), false);
            }
        }
    }

    private static void notReady() {
        MonotoneTriang reopened = Shapes.triangulated(Shapes.SQUARE);
        reopened.reopen();
        MonotoneTriang[] shapes = {new MonotoneTriang(4), Shapes.editing(Shapes.SQUARE), reopened,
            Shapes.triangulated(Shapes.BOW_TIE), Shapes.triangulated(0, 0, 4, 0, 4, 4, 1, 3, 0, 0)};
        for (MonotoneTriang shape : shapes) {
            for (int i = -1; i <= 5; i++) {
                for (int j = -1; j <= 5; j++) {
                    due.is("not ready: isDiagonal(" + i + ", " + j + ")",
                            shape.isDiagonal(i, j), false);
                }
            }
        }
    }
}
