/** Promise 11, the kind of a corner, sentence by sentence. */
public final class Promise11Test {
    private static final Due due = new Due();
    private static final int NONE = MonotoneTriang.KIND_NONE;

    /** The kinds of Shapes.ALL_KINDS, a digit each. */
    private static final String ALL_KINDS = "5325314141";

    public static void main(String[] args) {
        noneWhenNotReady();
        noneOutsideTheList();
        answersTheKind();
        theFirstAndTheLastCornerAreNeighbours();
        theRightOneOfTwoAtTheSameHeightIsBelow();
        heightComesBeforeSide();
        theSenseOfTurningDoesNotMatter();
        neverNoneForAValidIndex();
        changesNothing();
        due.end();
    }

    private static void kindsAre(String name, String digits, int... coordinates) {
        kindsOnce(name, digits, coordinates);
        String turned = new StringBuilder(digits).reverse().toString();
        kindsOnce(name + " clockwise", turned, Shapes.reversed(coordinates));
    }

    private static void kindsOnce(String name, String digits, int... coordinates) {
        MonotoneTriang shape = Shapes.triangulated(coordinates);
        for (int i = 0; i < digits.length(); i++) {
            int want = digits.charAt(i) - '0';
            due.is(name + ": vertexKind(" + i + ")", shape.vertexKind(i), want);
        }
    }

    private static void noneWhenNotReady() {
        due.sentence("the state is not STATE_READY: answers KIND_NONE");
        Situations.NOT_READY.forEach((name, maker) -> {
            MonotoneTriang shape = maker.get();
            for (int i = -1; i <= 32; i++) {
                due.is(name + ": vertexKind(" + i + ")", shape.vertexKind(i), NONE);
            }
            for (int i : Shapes.EXTREMES) {
                due.is(name + ": vertexKind(" + i + ")", shape.vertexKind(i), NONE);
            }
        });
    }

    private static void noneOutsideTheList() {
        due.sentence("i lies outside [0, n): answers KIND_NONE");
        Situations.READY.forEach((name, maker) -> noneOutside(name, maker.get()));
        // A longer list was ready before: its kinds must not show from n on.
        for (int n = 3; n < 32; n++) {
            noneOutside("shortened to " + n, Shapes.shortened(n));
        }
    }

    private static void noneOutside(String name, MonotoneTriang shape) {
        for (int i = -70; i <= 100; i++) {
            if (i < 0 || i >= shape.vertexCount()) {
                due.is(name + ": vertexKind(" + i + ")", shape.vertexKind(i), NONE);
            }
        }
        for (int i : Shapes.EXTREMES) {
            due.is(name + ": vertexKind(" + i + ")", shape.vertexKind(i), NONE);
        }
        for (int i : Shapes.WRAPPING) {
            due.is(name + ": vertexKind(" + i + ")", shape.vertexKind(i), NONE);
        }
    }

    private static void answersTheKind() {
        due.sentence("Otherwise it answers the KIND of vertex i");
        kindsAre("all kinds", ALL_KINDS, Shapes.ALL_KINDS);
        kindsAre("start, end", "315", 4, 0, 4, 6, 3, 2);
        kindsAre("split", "3231", 0, 0, 3, 3, 6, -1, 4, 9);
        kindsAre("merge", "1314", 0, 9, 3, 0, 6, 10, 3, 6);
        kindsAre("comb", "535" + "14".repeat(14) + "1", Shapes.COMB);
    }

    private static void theFirstAndTheLastCornerAreNeighbours() {
        due.sentence("p = v_prev(i) and q = v_next(i), around the end of the list");
        for (int shift = 0; shift < 10; shift++) {
            String digits = ALL_KINDS.substring(shift) + ALL_KINDS.substring(0, shift);
            kindsAre("from corner " + shift, digits, Shapes.shifted(Shapes.ALL_KINDS, shift));
        }
        for (int n = 3; n <= 32; n++) {
            kindsAre(n + " corners", "3" + "5".repeat(n - 2) + "1", Shapes.convex(n));
        }
    }

    private static void theRightOneOfTwoAtTheSameHeightIsBelow() {
        due.sentence("a.y == b.y and a.x > b.x: a is BELOW b");
        kindsAre("square", "5351", Shapes.SQUARE);
        kindsAre("level edges of length 1", "5351", 0, 0, 1, 0, 1, 1, 0, 1);
        kindsAre("level edges as long as can be", "5351", Shapes.WHOLE_PLANE);
        kindsAre("notch in the top", "53514551", 0, 0, 9, 0, 9, 9, 6, 9, 6, 4, 3, 4, 3, 9, 0, 9);
        kindsAre("notch in the bottom", "53255351",
                0, 0, 3, 0, 3, 5, 6, 5, 6, 0, 9, 0, 9, 9, 0, 9);
        kindsAre("flat corners", "553515", 0, 0, 4, 0, 8, 0, 8, 4, 8, 8, 4, 4);
    }

    private static void heightComesBeforeSide() {
        due.sentence("a.y < b.y: a is BELOW b, wherever their x lie");
        kindsAre("far left and one lower", "351", -1000, -1, 1000, 0, -1000, 0);
        kindsAre("far right and one lower", "351", 1000, -1, 1000, 0, -1000, 0);
        kindsAre("far left and one higher", "531", -1000, 0, 1000, 0, -1000, 1);
    }

    private static void theSenseOfTurningDoesNotMatter() {
        due.sentence("s = +1 if area2 > 0, else s = -1");
        kindsOnce("least area", "351", 0, 0, 1, 1, 1, 2);
        kindsOnce("least area clockwise", "315", 0, 0, 1, 2, 1, 1);
        kindsAre("reflex corners", "3231", 0, 0, 3, 3, 6, -1, 4, 9);
    }

    private static void neverNoneForAValidIndex() {
        due.sentence("It never answers KIND_NONE for a valid index in STATE_READY");
        Situations.READY.forEach((name, maker) -> {
            MonotoneTriang shape = maker.get();
            for (int i = 0; i < shape.vertexCount(); i++) {
                int kind = shape.vertexKind(i);
                due.is(name + ": vertexKind(" + i + ") is one", kind >= 1 && kind <= 5, true);
            }
        });
    }

    private static void changesNothing() {
        due.sentence("It changes nothing");
        Twins.getterChangesNothing(due, "vertexKind(i)");
    }
}
