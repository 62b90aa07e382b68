/** Promise 14, the summed triangle area, sentence by sentence. */
public final class Promise14Test {
    private static final Due due = new Due();

    public static void main(String[] args) {
        answersTheSum();
        equalsTheAreaWithoutItsSign();
        leastAndGreatestSum();
        notFromAnEarlierList();
        zeroWhenNotReady();
        changesNothing();
        due.end();
    }

    private static void sumIs(String name, int want, int... coordinates) {
        for (int shift = 0; shift < coordinates.length / 2; shift++) {
            int[] shifted = Shapes.shifted(coordinates, shift);
            MonotoneTriang shape = Shapes.triangulated(shifted);
            MonotoneTriang turned = Shapes.triangulated(Shapes.reversed(shifted));
            due.is(name + ": triangleAreaSum()", shape.triangleAreaSum(), want);
            due.is(name + " clockwise: triangleAreaSum()", turned.triangleAreaSum(), want);
        }
    }

    private static void answersTheSum() {
        due.sentence("it answers the sum over the triangles of |cross(a, b, c)|");
        for (int n = 3; n <= 32; n++) {
            sumIs(n + " corners", (n - 2) * (n - 1) * n / 3, Shapes.convex(n));
        }
        sumIs("all kinds", 124, Shapes.ALL_KINDS);
        sumIs("flat corners", 36, 0, 0, 2, 0, 4, 0, 6, 0, 4, 2, 2, 4, 0, 6, 0, 4, 0, 2);
        sumIs("dart", 37, 0, 0, 3, 3, 6, -1, 4, 9);
    }

    private static void equalsTheAreaWithoutItsSign() {
        due.sentence("This equals |area2()|, the same for every triangulation");
        Situations.READY.forEach((name, maker) -> {
            MonotoneTriang shape = maker.get();
            due.is(name + ": triangleAreaSum()",
                    shape.triangleAreaSum(), Math.abs(shape.area2()));
        });
    }

    private static void leastAndGreatestSum() {
        due.sentence("it fits in an int: the least and the greatest");
        sumIs("least", 1, 0, 0, 1, 0, 0, 1);
        sumIs("least and long", 1, -1000, -1000, 1000, 999, -999, -999);
        sumIs("greatest", 8000000, Shapes.WHOLE_PLANE);
        int[] full = new int[64];
        for (int i = 0; i < 8; i++) {
            int along = -1000 + 250 * i;
            int[][] sides = {{along, -1000}, {1000, along}, {-along, 1000}, {-1000, -along}};
            for (int side = 0; side < 4; side++) {
                full[2 * (8 * side + i)] = sides[side][0];
                full[2 * (8 * side + i) + 1] = sides[side][1];
            }
        }
        sumIs("greatest with 32 corners", 8000000, full);
    }

    private static void notFromAnEarlierList() {
        due.sentence("the triangulation of the present list, not of an earlier one");
        for (int n = 3; n < 32; n++) {
            int want = (n - 2) * (n - 1) * n / 3;
            due.is("shortened to " + n + ": triangleAreaSum()",
                    Shapes.shortened(n).triangleAreaSum(), want);
        }
    }

    private static void zeroWhenNotReady() {
        due.sentence("Otherwise it answers 0");
        Situations.NOT_READY.forEach((name, maker) ->
                due.is(name + ": triangleAreaSum()", maker.get().triangleAreaSum(), 0));
    }

    private static void changesNothing() {
        due.sentence("It changes nothing");
        Twins.getterChangesNothing(due, "triangleAreaSum()");
    }
}
