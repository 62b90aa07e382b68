import java.util.ArrayList;
import java.util.List;
import java.util.Random;

/** All promises: random runs of calls, the same ones every time, against the reference. */
public final class RandomRunsTest {
    private static final Due due = new Due();
    private static final Random random = new Random(20261115);

    public static void main(String[] args) {
        for (int round = 0; round < 3000; round++) {
            randomCorners();
        }
        for (int round = 0; round < 400; round++) {
            grownPolygon();
        }
        for (int round = 0; round < 300; round++) {
            randomCalls();
        }
        due.end();
    }

    /** Few corners on a small grid: most lists fail, and in all ways. */
    private static void randomCorners() {
        int size = 2 + random.nextInt(5);
        List<int[]> corners = new ArrayList<>();
        int n = random.nextInt(8);
        for (int i = 0; i < n; i++) {
            corners.add(randomPoint(size));
        }
        compareList(corners, size);
    }

    /** A simple polygon made by putting corners into the edges of a triangle. */
    private static void grownPolygon() {
        int[] sizes = {4, 6, 9, 30, 1000};
        int size = sizes[random.nextInt(sizes.length)];
        List<int[]> corners = new ArrayList<>();
        int goal = 4 + random.nextInt(29);
        for (int tries = 0; tries < 400 && corners.size() < goal; tries++) {
            int place = random.nextInt(corners.size() + 1);
            corners.add(place, randomPoint(size));
            if (corners.size() >= 3 && Reference.judge(corners) != 0) {
                corners.remove(place);
            }
        }
        compareList(corners, size);
    }

    private static int[] randomPoint(int size) {
        if (size == 1000) {
            return new int[] {random.nextInt(2001) - 1000, random.nextInt(2001) - 1000};
        }
        return new int[] {random.nextInt(size), random.nextInt(size)};
    }

    private static void compareList(List<int[]> corners, int size) {
        MonotoneTriang shape = new MonotoneTriang(32);
        Reference model = new Reference(32);
        StringBuilder list = new StringBuilder();
        for (int[] corner : corners) {
            list.append('(').append(corner[0]).append(", ").append(corner[1]).append(") ");
            due.is(list + "addVertex", shape.addVertex(corner[0], corner[1]),
                    model.addVertex(corner[0], corner[1]));
        }
        due.is(list + "triangulate()", shape.triangulate(), model.triangulate());
        compareGetters(list.toString(), shape, model);
        comparePoints(list.toString(), shape, model, size);
    }

    private static void compareGetters(String name, MonotoneTriang shape, Reference model) {
        due.is(name + "status()", shape.status(), model.status());
        due.is(name + "vertexCount()", shape.vertexCount(), model.vertexCount());
        due.is(name + "area2()", shape.area2(), model.area2());
        due.is(name + "triangleCount()", shape.triangleCount(), model.triangleCount());
        due.is(name + "triangleAreaSum()", shape.triangleAreaSum(), model.triangleAreaSum());
        int n = model.vertexCount();
        for (int i = -1; i <= n; i++) {
            due.is(name + "vertexX(" + i + ")", shape.vertexX(i), model.vertexX(i));
            due.is(name + "vertexY(" + i + ")", shape.vertexY(i), model.vertexY(i));
            due.is(name + "vertexKind(" + i + ")", shape.vertexKind(i), model.vertexKind(i));
            for (int j = -1; j <= n; j++) {
                due.is(name + "isDiagonal(" + i + ", " + j + ")",
                        shape.isDiagonal(i, j), model.isDiagonal(i, j));
            }
        }
        for (int kind = -1; kind <= 6; kind++) {
            due.is(name + "kindCount(" + kind + ")", shape.kindCount(kind), model.kindCount(kind));
        }
    }

    private static void comparePoints(
            String name, MonotoneTriang shape, Reference model, int size) {
        if (size <= 30) {
            for (int x = -1; x <= size; x++) {
                for (int y = -1; y <= size; y++) {
                    comparePoint(name, shape, model, x, y);
                }
            }
            return;
        }
        int n = model.vertexCount();
        for (int i = 0; i < n; i++) {
            for (int k = 0; k < 9; k++) {
                int x = model.vertexX(i) + k % 3 - 1;
                comparePoint(name, shape, model, x, model.vertexY(i) + k / 3 - 1);
            }
            int[] point = randomPoint(size);
            comparePoint(name, shape, model, point[0], point[1]);
            comparePoint(name, shape, model, point[0], model.vertexY(i));
            comparePoint(name, shape, model, model.vertexX(i), point[1]);
            int j = (i + 1) % n;
            comparePoint(name, shape, model, (model.vertexX(i) + model.vertexX(j)) / 2,
                    (model.vertexY(i) + model.vertexY(j)) / 2);
        }
    }

    private static void comparePoint(
            String name, MonotoneTriang shape, Reference model, int x, int y) {
        due.is(name + "locate(" + x + ", " + y + ")", shape.locate(x, y), model.locate(x, y));
    }

    /** One object through all its states, with every answer looked at after every call. */
    private static void randomCalls() {
        int capacity = random.nextInt(12);
        MonotoneTriang shape = new MonotoneTriang(capacity);
        Reference model = new Reference(capacity);
        for (int step = 0; step < 60; step++) {
            String name = "step " + step + ": ";
            int choice = random.nextInt(40);
            if (choice == 0) {
                shape.reset();
                model.reset();
            } else if (choice < 6) {
                due.is(name + "removeLast()", shape.removeLast(), model.removeLast());
            } else if (choice < 11) {
                due.is(name + "reopen()", shape.reopen(), model.reopen());
            } else if (choice < 15) {
                due.is(name + "triangulate()", shape.triangulate(), model.triangulate());
            } else if (choice == 15) {
                int x = random.nextInt();
                due.is(name + "addVertex(" + x + ", 3)",
                        shape.addVertex(x, 3), model.addVertex(x, 3));
            } else {
                int[] point = randomPoint(12);
                due.is(name + "addVertex(" + point[0] + ", " + point[1] + ")",
                        shape.addVertex(point[0], point[1]), model.addVertex(point[0], point[1]));
            }
            compareGetters(name, shape, model);
            comparePoint(name, shape, model, random.nextInt(12), random.nextInt(12));
            comparePoint(name, shape, model, random.nextInt(), random.nextInt(12));
        }
    }
}
