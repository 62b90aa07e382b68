/** Promise 16, interior diagonals, sentence by sentence. */
public final class Promise16Test {
    private static final Due due = new Due();

    public static void main(String[] args) {
        falseWhenNotReady();
        falseOutsideTheList();
        falseForOneCornerTwice();
        falseForTheCornersOfAnEdge();
        falseForTheLastAndTheFirst();
        trueWithinTheInterior();
        falseWhenTouchingTheBoundary();
        falseAlongAnEdge();
        falseOutsideTheRegion();
        falseThroughAnotherCorner();
        oneUnitDecides();
        symmetric();
        changesNothing();
        due.end();
    }

    /** Asks in both orders of i and j and in both senses of turning. */
    private static void pairIs(String name, boolean want, int i, int j, int... coordinates) {
        int last = coordinates.length / 2 - 1;
        String call = name + ": isDiagonal(" + i + ", " + j + ")";
        MonotoneTriang shape = Shapes.triangulated(coordinates);
        due.is(call + " is of a ready object", shape.status() == 1, true);
        due.is(call, shape.isDiagonal(i, j), want);
        due.is(call + " the other way", shape.isDiagonal(j, i), want);
        MonotoneTriang turned = Shapes.triangulated(Shapes.reversed(coordinates));
        due.is(call + " clockwise", turned.isDiagonal(last - i, last - j), want);
        due.is(call + " clockwise the other way", turned.isDiagonal(last - j, last - i), want);
    }

    private static void falseWhenNotReady() {
        due.sentence("the state is not STATE_READY: answers false");
        Situations.NOT_READY.forEach((name, maker) -> {
            MonotoneTriang shape = maker.get();
            for (int i = -1; i <= 32; i++) {
                for (int j = -1; j <= 32; j++) {
                    due.is(name + ": isDiagonal(" + i + ", " + j + ")",
                            shape.isDiagonal(i, j), false);
                }
            }
        });
    }

    private static void falseOutsideTheList() {
        due.sentence("i or j lies outside [0, n): answers false");
        Situations.READY.forEach((name, maker) -> falseOutside(name, maker.get()));
        // A longer list was ready before: its corners must not be found from n on.
        for (int n = 3; n < 32; n++) {
            falseOutside("shortened to " + n, Shapes.shortened(n));
        }
    }

    private static void falseOutside(String name, MonotoneTriang shape) {
        for (int out = -40; out <= 80; out++) {
            if (out < 0 || out >= shape.vertexCount()) {
                falseAsEither(name, shape, out);
            }
        }
        for (int out : Shapes.EXTREMES) {
            falseAsEither(name, shape, out);
        }
        for (int out : Shapes.WRAPPING) {
            falseAsEither(name, shape, out);
        }
    }

    private static void falseAsEither(String name, MonotoneTriang shape, int out) {
        for (int other = -1; other <= shape.vertexCount(); other++) {
            due.is(name + ": isDiagonal(" + out + ", " + other + ")",
                    shape.isDiagonal(out, other), false);
            due.is(name + ": isDiagonal(" + other + ", " + out + ")",
                    shape.isDiagonal(other, out), false);
        }
        due.is(name + ": isDiagonal(" + out + ", " + out + ")", shape.isDiagonal(out, out), false);
        int mirrored = -1 - out;
        due.is(name + ": isDiagonal(" + out + ", " + mirrored + ")",
                shape.isDiagonal(out, mirrored), false);
    }

    private static void falseForOneCornerTwice() {
        due.sentence("i == j: answers false");
        for (int n = 3; n <= 32; n++) {
            for (int i = 0; i < n; i++) {
                pairIs(n + " corners", false, i, i, Shapes.convex(n));
            }
        }
        for (int i = 0; i < 32; i++) {
            pairIs("comb", false, i, i, Shapes.COMB);
        }
    }

    private static void falseForTheCornersOfAnEdge() {
        due.sentence("j == next(i) or i == next(j): answers false");
        for (int n = 3; n <= 32; n++) {
            for (int i = 0; i + 1 < n; i++) {
                pairIs(n + " corners", false, i, i + 1, Shapes.convex(n));
            }
        }
        for (int i = 0; i < 31; i++) {
            pairIs("comb", false, i, i + 1, Shapes.COMB);
        }
    }

    private static void falseForTheLastAndTheFirst() {
        due.sentence("the two corners of any edge never form a diagonal,"
                + " including the pair n - 1 and 0");
        for (int n = 3; n <= 32; n++) {
            pairIs(n + " corners", false, n - 1, 0, Shapes.convex(n));
        }
        for (int shift = 0; shift < 10; shift++) {
            pairIs("all kinds", false, 9, 0, Shapes.shifted(Shapes.ALL_KINDS, shift));
        }
        pairIs("comb", false, 31, 0, Shapes.COMB);
    }

    private static void trueWithinTheInterior() {
        due.sentence("Otherwise it answers true iff every point of the segment,"
                + " other than its two endpoints, lies in the INTERIOR");
        for (int n = 4; n <= 32; n++) {
            for (int i = 0; i < n; i++) {
                for (int j = i + 2; j < n; j++) {
                    if (i > 0 || j < n - 1) {
                        pairIs(n + " corners", true, i, j, Shapes.convex(n));
                    }
                }
            }
        }
        pairIs("whole plane", true, 0, 2, Shapes.WHOLE_PLANE);
        pairIs("whole plane", true, 1, 3, Shapes.WHOLE_PLANE);
        pairIs("under a comb's tooth", true, 4, 6, Shapes.COMB);
        pairIs("along the comb's bar", true, 0, 4, Shapes.COMB);
        pairIs("under the comb's last tooth", true, 0, 30, Shapes.COMB);
        pairIs("shortest", true, 0, 2, 0, 0, 5, -2, 1, 0, 5, 3);
        // The middle is half a unit off the whole points around it, and some of these are outside.
        pairIs("narrow", true, 0, 2, 0, 0, 7, 4, 5, 3, 0, 5);
        pairIs("narrow, below zero", true, 0, 2, 0, 0, -7, -4, -5, -3, 0, -5);
    }

    private static void falseWhenTouchingTheBoundary() {
        due.sentence("A segment that touches the boundary anywhere between its endpoints"
                + " answers false");
        int[] notched = {0, 0, 9, 0, 9, 9, 6, 9, 6, 4, 3, 4, 3, 9, 0, 9};
        pairIs("leaves and comes back", false, 0, 2, notched);
        pairIs("leaves and comes back", false, 1, 7, notched);
        pairIs("leaves and ends in a corner", false, 2, 5, notched);
        pairIs("crosses a spike", false, 0, 2, 0, 0, 9, 0, 9, 9, 0, 9, 0, 5, 6, 4, 0, 4);
        pairIs("from tooth to bar", false, 31, 1, Shapes.COMB);
    }

    private static void falseAlongAnEdge() {
        due.sentence("touches the boundary: by running along an edge");
        int[] stairs = {0, 0, 6, 0, 6, 2, 3, 2, 3, 4, 1, 4, 0, 2};
        pairIs("along an edge and on within", false, 2, 6, stairs);
        pairIs("within beside it", true, 3, 6, stairs);
        pairIs("along two edges", false, 0, 2, 0, 0, 3, 0, 6, 0, 0, 6);
        pairIs("along three edges", false, 0, 3, 0, 0, 2, 0, 4, 0, 6, 0, 3, 5);
        pairIs("along the closing edge", false, 1, 3, 6, 0, 9, 0, 5, 5, 0, 0);
        for (int i = 0; i <= 30; i++) {
            for (int j = i + 2; j <= 30; j++) {
                pairIs("29 flat corners", false, i, j, Shapes.FLAT);
            }
            pairIs("29 flat corners", i > 0 && i < 30, i, 31, Shapes.FLAT);
        }
    }

    private static void falseOutsideTheRegion() {
        due.sentence("A segment that runs outside the region answers false");
        pairIs("dart", false, 1, 3, 0, 0, 6, 0, 3, 2, 0, 6);
        pairIs("dart with half middles", false, 1, 3, 0, 0, 5, -2, 1, 0, 5, 3);
        // Here some of the whole points around the middle are inside.
        pairIs("narrowly outside", false, 0, 2, 0, 0, 12, -20, 25, 9, 14, 5);
        pairIs("narrowly outside, below zero", false, 0, 2, 0, 0, -12, 20, -25, -9, -14, -5);
        pairIs("from tooth to tooth", false, 3, 5, Shapes.COMB);
        pairIs("from tooth to tooth to tooth", false, 3, 7, Shapes.COMB);
        pairIs("beside the comb", false, 2, 31, Shapes.COMB);
        pairIs("over a shallow valley", false, 2, 4, 0, 0, 6, 0, 6, 3, 3, 2, 0, 3);
    }

    private static void falseThroughAnotherCorner() {
        due.sentence("A segment that passes through another corner answers false");
        int[] notch = {0, 0, 8, 0, 8, 4, 4, 2, 0, 4};
        pairIs("reflex corner", false, 0, 2, notch);
        pairIs("reflex corner", false, 1, 4, notch);
        pairIs("up to that corner", true, 0, 3, notch);
        pairIs("comb, valley to valley", false, 4, 8, Shapes.COMB);
        int[] opposite = {0, 0, 6, 0, 3, 3, 9, 4, 9, 9, 5, 9, 6, 6, 0, 6};
        pairIs("reflex corners on both sides", false, 0, 4, opposite);
        pairIs("one of them", false, 0, 6, opposite);
        pairIs("from one to the other", true, 2, 6, opposite);
    }

    private static void oneUnitDecides() {
        due.sentence("touches the boundary or not: one unit decides");
        pairIs("cross is 1, aside", true, 0, 2,
                -1000, -1000, 1000, -1000, 1000, 999, 0, 1000, -999, -999, -1000, 0);
        pairIs("cross is -1, across", false, 0, 2,
                -1000, -1000, 1000, -1000, 1000, 999, 0, 1000, 999, 998, -1000, 0);
        pairIs("corner below the segment", true, 0, 2, 0, 0, 4, -3, 8, 0, 8, 5, 4, 1, 0, 5);
        pairIs("corner on the segment", false, 0, 2, 0, 0, 4, -3, 8, 0, 8, 5, 4, 0, 0, 5);
        pairIs("corner above the segment", false, 0, 2, 0, 0, 4, -3, 8, 0, 8, 5, 4, -1, 0, 5);
    }

    private static void symmetric() {
        due.sentence("The answer is symmetric in i and j");
        Situations.READY.forEach((name, maker) -> {
            MonotoneTriang shape = maker.get();
            for (int i = -1; i <= 32; i++) {
                for (int j = -1; j < i; j++) {
                    due.is(name + ": isDiagonal(" + i + ", " + j + ")",
                            shape.isDiagonal(i, j), shape.isDiagonal(j, i));
                }
            }
        });
    }

    private static void changesNothing() {
        due.sentence("It changes nothing");
        Twins.getterChangesNothing(due, "isDiagonal(i, j)");
    }
}
