/** Promises 1 to 4 and 7 to 10: the corner list, the state and the area of the list. */
public final class EditingTest {
    private static final Due due = new Due();

    public static void main(String[] args) {
        capacityIsClamped();
        newObject();
        appending();
        coordinatesOutOfBounds();
        appendingRefused();
        removing();
        removingRefused();
        resetting();
        states();
        corners();
        areas();
        due.end();
    }

    private static void capacityIsClamped() {
        int[][] argumentAndCapacity = {
            {Integer.MIN_VALUE, 4}, {-5, 4}, {-1, 4}, {0, 4}, {3, 4}, {4, 4}, {5, 5}, {17, 17},
            {31, 31}, {32, 32}, {33, 32}, {1000, 32}, {Integer.MAX_VALUE, 32}
        };
        for (int[] pair : argumentAndCapacity) {
            String name = "capacity " + pair[0] + ": ";
            MonotoneTriang shape = new MonotoneTriang(pair[0]);
            fillUp(name, shape, pair[1]);
            shape.reset();
            fillUp(name + "after reset(): ", shape, pair[1]);
            shape.triangulate();
            shape.reopen();
            shape.removeLast();
            due.is(name + "after reopen(): addVertex", shape.addVertex(0, 0), pair[1] - 1);
            due.is(name + "after reopen(): when full", shape.addVertex(0, 0), -1);
        }
    }

    private static void fillUp(String name, MonotoneTriang shape, int capacity) {
        for (int i = 0; i < capacity; i++) {
            due.is(name + "addVertex number " + i, shape.addVertex(i, i * i % 7), i);
        }
        due.is(name + "addVertex when full", shape.addVertex(0, 0), -1);
        due.is(name + "vertexCount()", shape.vertexCount(), capacity);
    }

    private static void newObject() {
        MonotoneTriang shape = new MonotoneTriang(8);
        due.is("new: status()", shape.status(), MonotoneTriang.STATE_EDITING);
        due.is("new: vertexCount()", shape.vertexCount(), 0);
        due.is("new: area2()", shape.area2(), 0);
        due.is("new: triangleCount()", shape.triangleCount(), 0);
        due.is("new: triangleAreaSum()", shape.triangleAreaSum(), 0);
        due.is("new: vertexKind(0)", shape.vertexKind(0), MonotoneTriang.KIND_NONE);
        due.is("new: kindCount(1)", shape.kindCount(1), 0);
        due.is("new: locate(0, 0)", shape.locate(0, 0), MonotoneTriang.LOC_NONE);
        due.is("new: isDiagonal(0, 2)", shape.isDiagonal(0, 2), false);
    }

    private static void appending() {
        MonotoneTriang shape = new MonotoneTriang(6);
        int[] list = {3, -4, 3, -4, 1000, -1000, -1000, 1000, 0, 0, 0, 0};
        for (int i = 0; i < 6; i++) {
            due.is("addVertex " + i, shape.addVertex(list[2 * i], list[2 * i + 1]), i);
            due.is("vertexCount()", shape.vertexCount(), i + 1);
            due.is("status()", shape.status(), MonotoneTriang.STATE_EDITING);
            for (int k = 0; k <= i; k++) {
                due.is("vertexX(" + k + ")", shape.vertexX(k), list[2 * k]);
                due.is("vertexY(" + k + ")", shape.vertexY(k), list[2 * k + 1]);
            }
        }
    }

    private static void coordinatesOutOfBounds() {
        MonotoneTriang shape = Shapes.editing(1, 2);
        String before = Shapes.everything(shape);
        int[] outside = {Integer.MIN_VALUE, Integer.MIN_VALUE + 1, -65536, -2000, -1001, 1001,
            2000, 65536, Integer.MAX_VALUE - 1, Integer.MAX_VALUE};
        int[] other = {Integer.MIN_VALUE, -1000, 0, 1000, Integer.MAX_VALUE};
        for (int out : outside) {
            for (int o : other) {
                due.is("addVertex(" + out + ", " + o + ")", shape.addVertex(out, o), -1);
                due.is("addVertex(" + o + ", " + out + ")", shape.addVertex(o, out), -1);
            }
        }
        due.is("nothing changed", Shapes.everything(shape).equals(before), true);
        due.is("addVertex(-1000, 1000)", shape.addVertex(-1000, 1000), 1);
        due.is("addVertex(1000, -1000)", shape.addVertex(1000, -1000), 2);
        due.is("addVertex(-1000, -1000)", shape.addVertex(-1000, -1000), 3);
        due.is("addVertex(1000, 1000)", shape.addVertex(1000, 1000), 4);
    }

    private static void appendingRefused() {
        MonotoneTriang[] shapes = {Shapes.triangulated(Shapes.SQUARE),
            Shapes.triangulated(Shapes.BOW_TIE), Shapes.triangulated()};
        for (MonotoneTriang shape : shapes) {
            String before = Shapes.everything(shape);
            due.is("addVertex outside editing", shape.addVertex(5, 20), -1);
            due.is("addVertex outside editing", shape.addVertex(5, 2000), -1);
            due.is("nothing changed", Shapes.everything(shape).equals(before), true);
        }
        MonotoneTriang full = new MonotoneTriang(4);
        fillUp("full: ", full, 4);
        String before = Shapes.everything(full);
        due.is("addVertex when full", full.addVertex(9, 9), -1);
        due.is("nothing changed", Shapes.everything(full).equals(before), true);
    }

    private static void removing() {
        MonotoneTriang shape = Shapes.editing(Shapes.SQUARE);
        due.is("removeLast()", shape.removeLast(), true);
        due.is("vertexCount()", shape.vertexCount(), 3);
        due.is("status()", shape.status(), MonotoneTriang.STATE_EDITING);
        due.is("vertexY(3) is freed", shape.vertexY(3), 0);
        for (int i = 0; i < 3; i++) {
            due.is("vertexX(" + i + ")", shape.vertexX(i), Shapes.SQUARE[2 * i]);
            due.is("vertexY(" + i + ")", shape.vertexY(i), Shapes.SQUARE[2 * i + 1]);
        }
        due.is("addVertex reuses the index", shape.addVertex(-3, 7), 3);
        due.is("vertexX(3)", shape.vertexX(3), -3);
        due.is("vertexY(3)", shape.vertexY(3), 7);
        for (int n = 3; n >= 0; n--) {
            due.is("removeLast()", shape.removeLast(), true);
            due.is("vertexCount()", shape.vertexCount(), n);
        }
        due.is("removeLast() when empty", shape.removeLast(), false);
        due.is("vertexCount()", shape.vertexCount(), 0);
        due.is("addVertex", shape.addVertex(1, 1), 0);
    }

    private static void removingRefused() {
        due.is("removeLast() of a new object", new MonotoneTriang(4).removeLast(), false);
        MonotoneTriang[] shapes = {Shapes.triangulated(Shapes.SQUARE),
            Shapes.triangulated(Shapes.BOW_TIE), Shapes.triangulated()};
        for (MonotoneTriang shape : shapes) {
            String before = Shapes.everything(shape);
            due.is("removeLast() outside editing", shape.removeLast(), false);
            due.is("nothing changed", Shapes.everything(shape).equals(before), true);
        }
    }

    private static void resetting() {
        String empty = Shapes.everything(new MonotoneTriang(32));
        MonotoneTriang[] shapes = {Shapes.editing(), Shapes.editing(Shapes.SQUARE),
            Shapes.triangulated(Shapes.SQUARE), Shapes.triangulated(Shapes.BOW_TIE),
            Shapes.triangulated(Shapes.REPEATED), Shapes.triangulated()};
        for (MonotoneTriang shape : shapes) {
            shape.reset();
            due.is("all is gone", Shapes.everything(shape).equals(empty), true);
            shape.reset();
            due.is("still as it was", Shapes.everything(shape).equals(empty), true);
            due.is("addVertex", shape.addVertex(1, 1), 0);
            due.is("addVertex", shape.addVertex(5, 1), 1);
            due.is("addVertex", shape.addVertex(1, 4), 2);
            due.is("triangulate()", shape.triangulate(), MonotoneTriang.RESULT_OK);
            due.is("triangleAreaSum()", shape.triangleAreaSum(), 12);
        }
    }

    private static void states() {
        MonotoneTriang shape = Shapes.editing(Shapes.TRIANGLE);
        due.is("status() editing", shape.status(), 0);
        shape.triangulate();
        due.is("status() ready", shape.status(), 1);
        due.is("status() asked twice", shape.status(), 1);
        shape.reopen();
        due.is("status() reopened", shape.status(), 0);
        shape.removeLast();
        shape.triangulate();
        due.is("status() failed", shape.status(), 2);
        due.is("vertexCount() failed", shape.vertexCount(), 2);
        shape.reset();
        due.is("status() reset", shape.status(), 0);
    }

    private static void corners() {
        MonotoneTriang[] shapes = {Shapes.editing(5, 6, -7, -8, 9, 1),
            Shapes.triangulated(5, 6, -7, -8, 9, 1), Shapes.triangulated(5, 6, -7, -8, 9, 1, 5, 6)};
        for (MonotoneTriang shape : shapes) {
            due.is("vertexX(0)", shape.vertexX(0), 5);
            due.is("vertexY(0)", shape.vertexY(0), 6);
            due.is("vertexX(1)", shape.vertexX(1), -7);
            due.is("vertexY(1)", shape.vertexY(1), -8);
            due.is("vertexX(2)", shape.vertexX(2), 9);
            due.is("vertexY(2)", shape.vertexY(2), 1);
            due.is("vertexX(n)", shape.vertexX(shape.vertexCount()), 0);
            due.is("vertexY(n)", shape.vertexY(shape.vertexCount()), 0);
            for (int i : Shapes.EXTREMES) {
                due.is("vertexX(" + i + ")", shape.vertexX(i), 0);
                due.is("vertexY(" + i + ")", shape.vertexY(i), 0);
            }
        }
        shapes[0].removeLast();
        due.is("vertexX(2) after removeLast()", shapes[0].vertexX(2), 0);
        due.is("vertexY(2) after removeLast()", shapes[0].vertexY(2), 0);
        shapes[1].reset();
        due.is("vertexX(0) after reset()", shapes[1].vertexX(0), 0);
        due.is("vertexY(0) after reset()", shapes[1].vertexY(0), 0);
    }

    private static void areas() {
        areaIs("nothing", 0);
        areaIs("a point", 0, 700, -300);
        areaIs("a pair", 0, 700, -300, 12, 900);
        areaIs("a triangle", 36, Shapes.TRIANGLE);
        areaIs("a triangle clockwise", -36, Shapes.reversed(Shapes.TRIANGLE));
        areaIs("all kinds", 124, Shapes.ALL_KINDS);
        areaIs("corners on a line", 0, 0, 0, 1, 1, 2, 2);
        areaIs("a bow tie", 0, Shapes.BOW_TIE);
        areaIs("an uneven bow tie", -12, 0, 0, 4, 4, 4, 0, 0, 1);
        areaIs("equal corners", 16, Shapes.REPEATED);
        areaIs("the whole plane", 8000000, Shapes.WHOLE_PLANE);
        int[] round = new int[64];
        for (int i = 0; i < 32; i++) {
            round[2 * i] = i % 4 == 0 || i % 4 == 3 ? -1000 : 1000;
            round[2 * i + 1] = i % 4 < 2 ? -1000 : 1000;
        }
        areaIs("eight times round the whole plane", 64000000, round);
    }

    private static void areaIs(String name, int want, int... coordinates) {
        MonotoneTriang shape = Shapes.editing(coordinates);
        due.is(name + ": area2() while editing", shape.area2(), want);
        shape.triangulate();
        due.is(name + ": area2() after triangulate()", shape.area2(), want);
    }
}
