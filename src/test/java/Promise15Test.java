/** Promise 15, locating a point, sentence by sentence. */
public final class Promise15Test {
    private static final Due due = new Due();
    private static final int NONE = MonotoneTriang.LOC_NONE;
    private static final int OUTSIDE = MonotoneTriang.LOC_OUTSIDE;
    private static final int BOUNDARY = MonotoneTriang.LOC_BOUNDARY;
    private static final int INSIDE = MonotoneTriang.LOC_INSIDE;

    private static final int[] ELL = {0, 0, 8, 0, 8, 4, 4, 4, 4, 8, 0, 8};
    private static final int[] NOTCHED = {0, 0, 9, 0, 9, 9, 6, 9, 6, 4, 3, 4, 3, 9, 0, 9};

    public static void main(String[] args) {
        noneWhenNotReady();
        noneComesBeforeOutOfBounds();
        outsideWhenOutOfBounds();
        theBoundsThemselvesAreJudged();
        pointsOfEveryEdgeAreOnTheBoundary();
        beyondAnEdgeIsNotOnIt();
        pointsInTheInteriorAreInside();
        theSenseOfTurningDoesNotMatter();
        levelWithCorners();
        oneUnitFromTheBoundary();
        otherPointsAreOutside();
        everyCornerIsOnTheBoundary();
        changesNothing();
        due.end();
    }

    private static void at(String name, int want, int x, int y, int... coordinates) {
        String call = name + ": locate(" + x + ", " + y + ")";
        due.is(call, Shapes.triangulated(coordinates).locate(x, y), want);
        MonotoneTriang turned = Shapes.triangulated(Shapes.reversed(coordinates));
        due.is(call + " clockwise", turned.locate(x, y), want);
    }

    private static void noneWhenNotReady() {
        due.sentence("the state is not STATE_READY: answers LOC_NONE, for all x and y");
        Situations.NOT_READY.forEach((name, maker) -> {
            MonotoneTriang shape = maker.get();
            for (int x = -1; x <= 13; x++) {
                for (int y = -1; y <= 13; y++) {
                    due.is(name + ": locate(" + x + ", " + y + ")", shape.locate(x, y), NONE);
                }
            }
            for (int i = 0; i < shape.vertexCount(); i++) {
                int found = shape.locate(shape.vertexX(i), shape.vertexY(i));
                due.is(name + ": locate of corner " + i, found, NONE);
            }
        });
    }

    private static void noneComesBeforeOutOfBounds() {
        due.sentence("LOC_NONE, for all x and y: also for those out of bounds");
        int[] values = {Integer.MIN_VALUE, -1001, -1000, 0, 1000, 1001, Integer.MAX_VALUE};
        Situations.NOT_READY.forEach((name, maker) -> {
            MonotoneTriang shape = maker.get();
            for (int x : values) {
                for (int y : values) {
                    due.is(name + ": locate(" + x + ", " + y + ")", shape.locate(x, y), NONE);
                }
            }
        });
    }

    private static void outsideWhenOutOfBounds() {
        due.sentence("x or y lies outside [COORD_MIN, COORD_MAX]: answers LOC_OUTSIDE,"
                + " for any int values including the extremes");
        Situations.READY.forEach((name, maker) -> {
            MonotoneTriang shape = maker.get();
            for (int beyond = 1001; beyond <= 1300; beyond++) {
                outsideAsEither(name, shape, beyond);
                outsideAsEither(name, shape, -beyond);
            }
            for (int k = 10; k < 31; k++) {
                for (int near = -3; near <= 3; near++) {
                    outsideAsEither(name, shape, (1 << k) + near);
                    outsideAsEither(name, shape, -(1 << k) + near);
                }
            }
            for (int near = 0; near <= 1000; near += 50) {
                outsideAsEither(name, shape, Integer.MIN_VALUE + near);
                outsideAsEither(name, shape, Integer.MAX_VALUE - near);
            }
        });
    }

    private static void outsideAsEither(String name, MonotoneTriang shape, int out) {
        int[] others = {-1000, 0, 2, 1000, out, Integer.MIN_VALUE, Integer.MAX_VALUE};
        for (int other : others) {
            due.is(name + ": locate(" + out + ", " + other + ")",
                    shape.locate(out, other), OUTSIDE);
            due.is(name + ": locate(" + other + ", " + out + ")",
                    shape.locate(other, out), OUTSIDE);
        }
    }

    private static void theBoundsThemselvesAreJudged() {
        due.sentence("outside [COORD_MIN, COORD_MAX]: the bounds themselves are not outside");
        int[] bounds = {-1000, 1000};
        for (int bound : bounds) {
            for (int other = -1000; other <= 1000; other += 125) {
                at("whole plane", BOUNDARY, bound, other, Shapes.WHOLE_PLANE);
                at("whole plane", BOUNDARY, other, bound, Shapes.WHOLE_PLANE);
                at("triangle", OUTSIDE, bound, other, Shapes.TRIANGLE);
                at("triangle", OUTSIDE, other, bound, Shapes.TRIANGLE);
            }
        }
        at("whole plane", INSIDE, 999, -999, Shapes.WHOLE_PLANE);
        at("whole plane", INSIDE, -999, 999, Shapes.WHOLE_PLANE);
    }

    private static void pointsOfEveryEdgeAreOnTheBoundary() {
        due.sentence("(x, y) lies on the BOUNDARY: answers LOC_BOUNDARY");
        int[][] lists = {Shapes.TRIANGLE, Shapes.SQUARE, ELL, NOTCHED, Shapes.ALL_KINDS,
            {-1000, -1000, 1000, -500, 0, 1000}, {0, 0, 3, 0, 6, 0, 0, 6}};
        for (int[] list : lists) {
            int n = list.length / 2;
            for (int i = 0; i < n; i++) {
                int j = (i + 1) % n;
                pointsBetween(list, list[2 * i], list[2 * i + 1], list[2 * j], list[2 * j + 1]);
            }
        }
        at("longest edge", BOUNDARY, 0, 0, -1000, -1000, 1000, 1000, -1000, 1000);
        at("closing edge", BOUNDARY, 0, 7, 0, 0, 9, 4, 0, 9);
    }

    private static void pointsBetween(int[] list, int ax, int ay, int bx, int by) {
        int steps = gcd(Math.abs(bx - ax), Math.abs(by - ay));
        for (int k = 0; k <= steps; k++) {
            at("edge", BOUNDARY, ax + (bx - ax) / steps * k, ay + (by - ay) / steps * k, list);
        }
    }

    private static int gcd(int a, int b) {
        return b == 0 ? a : gcd(b, a % b);
    }

    private static void beyondAnEdgeIsNotOnIt() {
        due.sentence("on the BOUNDARY: a point on an edge's line beyond its ends is not");
        int[][] around = {{-1, 0}, {11, 0}, {0, -1}, {0, 11}, {10, 11}, {10, -1}, {11, 10}};
        for (int[] point : around) {
            at("square", OUTSIDE, point[0], point[1], Shapes.SQUARE);
        }
        at("slanted", OUTSIDE, 7, -1, Shapes.TRIANGLE);
        at("slanted", OUTSIDE, -1, 7, Shapes.TRIANGLE);
        for (int k = 1; k < 4; k++) {
            at("within the ell", INSIDE, k, 4, ELL);
            at("within the ell", INSIDE, 4, k, ELL);
        }
    }

    private static void pointsInTheInteriorAreInside() {
        due.sentence("(x, y) lies in the INTERIOR: answers LOC_INSIDE");
        for (int x = 1; x <= 9; x++) {
            for (int y = 1; y <= 9; y++) {
                at("square", INSIDE, x, y, Shapes.SQUARE);
            }
        }
        at("comb tooth", INSIDE, 840, 999, Shapes.COMB);
        at("comb tooth", INSIDE, -840, 999, Shapes.COMB);
        at("only point inside", INSIDE, 1, 1, 0, 0, 3, 0, 0, 3);
    }

    private static void theSenseOfTurningDoesNotMatter() {
        due.sentence("INTERIOR: nonzero winding number, so -1 as well as 1");
        MonotoneTriang counterclockwise = Shapes.triangulated(Shapes.SQUARE);
        MonotoneTriang clockwise = Shapes.triangulated(Shapes.reversed(Shapes.SQUARE));
        due.is("counterclockwise", counterclockwise.locate(5, 5), INSIDE);
        due.is("clockwise", clockwise.locate(5, 5), INSIDE);
        due.is("counterclockwise, beside it", counterclockwise.locate(15, 5), OUTSIDE);
        due.is("clockwise, beside it", clockwise.locate(15, 5), OUTSIDE);
    }

    private static void levelWithCorners() {
        due.sentence("INTERIOR, for points level with corners and with edges");
        int[] diamond = {0, -5, 5, 0, 0, 5, -5, 0};
        for (int k = -4; k <= 4; k++) {
            at("diamond, level", INSIDE, k, 0, diamond);
            at("diamond, upright", INSIDE, 0, k, diamond);
        }
        int[] away = {-7, -6, 6, 7};
        for (int k : away) {
            at("diamond, level", OUTSIDE, k, 0, diamond);
            at("diamond, upright", OUTSIDE, 0, k, diamond);
            at("diamond, level with its top", OUTSIDE, k, 5, diamond);
            at("diamond, level with its bottom", OUTSIDE, k, -5, diamond);
        }
        at("notched, level with its bottom", OUTSIDE, -1, 4, NOTCHED);
        at("notched, level with its bottom", INSIDE, 1, 4, NOTCHED);
        at("notched, level with its bottom", INSIDE, 8, 4, NOTCHED);
        at("notched, level with its bottom", OUTSIDE, 10, 4, NOTCHED);
        at("notched, level with its top", OUTSIDE, 4, 9, NOTCHED);
        at("notched, level with its top", OUTSIDE, -1, 9, NOTCHED);
        // Corners that only touch the level line from below or from above.
        int[] peaks = {0, 0, 12, 0, 9, 6, 6, 3, 3, 6};
        int[] row = {OUTSIDE, OUTSIDE, INSIDE, INSIDE, INSIDE, INSIDE, BOUNDARY, INSIDE, INSIDE,
            INSIDE, INSIDE, OUTSIDE, OUTSIDE};
        for (int x = 0; x <= 12; x++) {
            at("peaks, level with the valley", row[x], x, 3, peaks);
            at("peaks, level with the tops", x == 3 || x == 9 ? BOUNDARY : OUTSIDE, x, 6, peaks);
        }
    }

    private static void oneUnitFromTheBoundary() {
        due.sentence("on the BOUNDARY, in the INTERIOR, otherwise: one unit decides");
        int[] slanted = {-1000, -1000, 1000, 999, -1000, 1000};
        at("cross is 1", INSIDE, -999, -999, slanted);
        at("cross is 0", BOUNDARY, 1000, 999, slanted);
        at("cross is -1", OUTSIDE, 999, 998, slanted);
        int[] other = {-1000, -1000, 1000, -1000, 1000, 999};
        at("cross is 1", OUTSIDE, -999, -999, other);
        at("cross is -1", INSIDE, 999, 998, other);
        for (int k = 0; k <= 10; k++) {
            at("below the square", OUTSIDE, k, -1, Shapes.SQUARE);
            at("above the square", OUTSIDE, k, 11, Shapes.SQUARE);
            at("left of the square", OUTSIDE, -1, k, Shapes.SQUARE);
            at("right of the square", OUTSIDE, 11, k, Shapes.SQUARE);
        }
    }

    private static void otherPointsAreOutside() {
        due.sentence("Otherwise it answers LOC_OUTSIDE");
        at("in the notch", OUTSIDE, 4, 5, NOTCHED);
        at("in the notch", OUTSIDE, 5, 8, NOTCHED);
        at("in the ell's corner", OUTSIDE, 5, 5, ELL);
        at("between the comb's teeth", OUTSIDE, 780, 999, Shapes.COMB);
        at("far away", OUTSIDE, -1000, 1000, Shapes.SQUARE);
    }

    private static void everyCornerIsOnTheBoundary() {
        due.sentence("in STATE_READY locate(vertexX(i), vertexY(i)) answers LOC_BOUNDARY"
                + " for every i in [0, n)");
        Situations.READY.forEach((name, maker) -> cornersAreOnTheBoundary(name, maker.get()));
        for (int n = 3; n <= 32; n++) {
            MonotoneTriang shape = Shapes.triangulated(Shapes.convex(n));
            cornersAreOnTheBoundary(n + " corners", shape);
        }
    }

    private static void cornersAreOnTheBoundary(String name, MonotoneTriang shape) {
        for (int i = 0; i < shape.vertexCount(); i++) {
            int found = shape.locate(shape.vertexX(i), shape.vertexY(i));
            due.is(name + ": locate of corner " + i, found, BOUNDARY);
        }
    }

    private static void changesNothing() {
        due.sentence("It changes nothing");
        Twins.getterChangesNothing(due, "locate(x, y)");
    }
}
