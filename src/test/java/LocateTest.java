/** Promise 15: where a point lies. */
public final class LocateTest {
    private static final Due due = new Due();

    /** The highest row first: '.' is outside, 'o' on the boundary, '#' inside. */
    private static final String[] ALL_KINDS_MAP = {
        "...............",
        ".o.....o.....o.",
        ".o.....#.....o.",
        ".o#...###...#o.",
        ".o#...###...#o.",
        ".o##.#####.##o.",
        ".o##o#####o##o.",
        ".o#####o#####o.",
        ".o####o.o####o.",
        ".ooooo...ooooo.",
        "..............."
    };

    private static final String[] LEVEL_NOTCH_MAP = {
        ".......",
        ".oo.oo.",
        ".oo.oo.",
        ".ooooo.",
        ".o###o.",
        ".ooooo.",
        "......."
    };

    public static void main(String[] args) {
        mapOf("all kinds", ALL_KINDS_MAP, Shapes.ALL_KINDS);
        mapOf("level notch", LEVEL_NOTCH_MAP, 0, 0, 4, 0, 4, 4, 3, 4, 3, 2, 1, 2, 1, 4, 0, 4);
        wholePlane();
        betweenTheGrid();
        notReady();
        due.end();
    }

    private static void mapOf(String name, String[] map, int... coordinates) {
        mapOnce(name, map, Shapes.triangulated(coordinates));
        mapOnce(name + " clockwise", map, Shapes.triangulated(Shapes.reversed(coordinates)));
    }

    private static void mapOnce(String name, String[] map, MonotoneTriang shape) {
        for (int row = 0; row < map.length; row++) {
            int y = map.length - 2 - row;
            for (int column = 0; column < map[row].length(); column++) {
                int x = column - 1;
                int want = 1 + ".o#".indexOf(map[row].charAt(column));
                due.is(name + ": locate(" + x + ", " + y + ")", shape.locate(x, y), want);
            }
        }
        for (int i = 0; i < shape.vertexCount(); i++) {
            int at = shape.locate(shape.vertexX(i), shape.vertexY(i));
            due.is(name + ": locate of corner " + i, at, MonotoneTriang.LOC_BOUNDARY);
        }
        outOfBounds(name, shape);
    }

    private static void outOfBounds(String name, MonotoneTriang shape) {
        int[] outside = {Integer.MIN_VALUE, Integer.MIN_VALUE + 1, -(1 << 30), -1001, 1001,
            1 << 16, 1 << 30, Integer.MAX_VALUE - 1, Integer.MAX_VALUE};
        int[] other = {Integer.MIN_VALUE, -1000, 0, 1, 1000, Integer.MAX_VALUE};
        for (int out : outside) {
            for (int o : other) {
                due.is(name + ": locate(" + out + ", " + o + ")", shape.locate(out, o), 1);
                due.is(name + ": locate(" + o + ", " + out + ")", shape.locate(o, out), 1);
            }
        }
    }

    private static void wholePlane() {
        MonotoneTriang shape = Shapes.triangulated(Shapes.WHOLE_PLANE);
        due.is("locate(999, -999)", shape.locate(999, -999), MonotoneTriang.LOC_INSIDE);
        due.is("locate(1000, -999)", shape.locate(1000, -999), MonotoneTriang.LOC_BOUNDARY);
        due.is("locate(-1000, 1000)", shape.locate(-1000, 1000), MonotoneTriang.LOC_BOUNDARY);
        outOfBounds("whole plane", shape);
    }

    private static void betweenTheGrid() {
        MonotoneTriang thin = Shapes.triangulated(-1000, -1000, 1000, 999, 1000, 1000);
        due.is("thin: locate(999, 999)", thin.locate(999, 999), MonotoneTriang.LOC_BOUNDARY);
        due.is("thin: locate(999, 998)", thin.locate(999, 998), MonotoneTriang.LOC_OUTSIDE);
        due.is("thin: locate(998, 999)", thin.locate(998, 999), MonotoneTriang.LOC_OUTSIDE);
        MonotoneTriang wide = Shapes.triangulated(-1000, -1000, 1000, 998, 1000, 1000);
        due.is("wide: locate(999, 998)", wide.locate(999, 998), MonotoneTriang.LOC_INSIDE);
        due.is("wide: locate(0, -1)", wide.locate(0, -1), MonotoneTriang.LOC_BOUNDARY);
    }

    private static void notReady() {
        MonotoneTriang reopened = Shapes.triangulated(Shapes.SQUARE);
        reopened.reopen();
        MonotoneTriang wiped = Shapes.triangulated(Shapes.SQUARE);
        wiped.reset();
        MonotoneTriang[] shapes = {new MonotoneTriang(4), Shapes.editing(Shapes.SQUARE), reopened,
            wiped, Shapes.triangulated(Shapes.BOW_TIE), Shapes.triangulated()};
        int[] values = {Integer.MIN_VALUE, -1001, 0, 2, 10, 1001, Integer.MAX_VALUE};
        for (MonotoneTriang shape : shapes) {
            for (int x : values) {
                for (int y : values) {
                    due.is("not ready: locate(" + x + ", " + y + ")", shape.locate(x, y), 0);
                }
            }
        }
    }
}
