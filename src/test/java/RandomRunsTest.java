import java.util.ArrayList;
import java.util.List;
import java.util.Random;

/** All promises: random runs of calls, the same ones every time, against the reference. */
public final class RandomRunsTest {
    private static final Due due = new Due();
    private static final Random random = new Random(20261115);

    public static void main(String[] args) {
        for (int round = 0; round < 3000; round++) {
            randomCorners();
        }
        for (int round = 0; round < 400; round++) {
            grownPolygon();
        }
        for (int round = 0; round < 300; round++) {
            randomCalls();
        }
        due.end();
    }

    /** Few corners on a small grid: most lists fail, and in all ways. */
    private static void randomCorners() {
        int size = 2 + random.nextInt(5);
        List<int[]> corners = new ArrayList<>();
        int n = random.nextInt(8);
        for (int i = 0; i < n; i++) {
            corners.add(randomPoint(size));
        }
        compareList(corners, size);
    }

    /** A simple polygon made by putting corners into the edges of a triangle. */
    private static void grownPolygon() {
        int[] sizes = {4, 6, 9, 30, 1000};
        int size = sizes[random.nextInt(sizes.length)];
        List<int[]> corners = new ArrayList<>();
        int goal = 4 + random.nextInt(29);
        for (int tries = 0; tries < 400 && corners.size() < goal; tries++) {
            int place = random.nextInt(corners.size() + 1);
            corners.add(place, randomPoint(size));
            if (corners.size() >= 3 && Reference.judge(corners) != 0) {
                corners.remove(place);
            }
        }
        compareList(corners, size);
    }

    private static int[] randomPoint(int size) {
        if (size == 1000) {
            return new int[] {random.nextInt(2001) - 1000, random.nextInt(2001) - 1000};
        }
        return new int[] {random.nextInt(size), random.nextInt(size)};
    }

    private static void compareList(List<int[]> corners, int size) {
        MonotoneTriang shape = new MonotoneTriang(32);
        Reference model = new Reference(32);
        String list = Compared.lists(due, corners, shape, model);
        comparePoints(list, shape, model, size);
    }

    private static void comparePoints(
            String name, MonotoneTriang shape, Reference model, int size) {
        if (size <= 30) {
            Compared.grid(due, name, shape, model, size);
            return;
        }
        int n = model.vertexCount();
        for (int i = 0; i < n; i++) {
            for (int k = 0; k < 9; k++) {
                int x = model.vertexX(i) + k % 3 - 1;
                Compared.point(due, name, shape, model, x, model.vertexY(i) + k / 3 - 1);
            }
            int[] point = randomPoint(size);
            Compared.point(due, name, shape, model, point[0], point[1]);
            Compared.point(due, name, shape, model, point[0], model.vertexY(i));
            Compared.point(due, name, shape, model, model.vertexX(i), point[1]);
            int j = (i + 1) % n;
            Compared.point(due, name, shape, model, (model.vertexX(i) + model.vertexX(j)) / 2,
                    (model.vertexY(i) + model.vertexY(j)) / 2);
        }
    }

    /** One object through all its states, with every answer looked at after every call. */
    private static void randomCalls() {
        int capacity = random.nextInt(12);
        MonotoneTriang shape = new MonotoneTriang(capacity);
        Reference model = new Reference(capacity);
        for (int step = 0; step < 60; step++) {
            String name = "step " + step + ": ";
            int choice = random.nextInt(40);
            if (choice == 0) {
                shape.reset();
                model.reset();
            } else if (choice < 6) {
                due.is(name + "removeLast()", shape.removeLast(), model.removeLast());
            } else if (choice < 11) {
                due.is(name + "reopen()", shape.reopen(), model.reopen());
            } else if (choice < 15) {
                due.is(name + "triangulate()", shape.triangulate(), model.triangulate());
            } else if (choice == 15) {
                int x = random.nextInt();
                due.is(name + "addVertex(" + x + ", 3)",
                        shape.addVertex(x, 3), model.addVertex(x, 3));
            } else {
                int[] point = randomPoint(12);
                due.is(name + "addVertex(" + point[0] + ", " + point[1] + ")",
                        shape.addVertex(point[0], point[1]), model.addVertex(point[0], point[1]));
            }
            Compared.getters(due, name, shape, model);
            Compared.point(due, name, shape, model, random.nextInt(12), random.nextInt(12));
            Compared.point(due, name, shape, model, random.nextInt(), random.nextInt(12));
        }
    }
}
