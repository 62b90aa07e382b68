import java.util.LinkedHashMap;
import java.util.Map;
import java.util.function.IntUnaryOperator;
import java.util.function.Supplier;

/** What the document says before its terms: above all, answers come from the corner list alone. */
public final class OverviewTest {
    private static final Due due = new Due();
    private static final Map<String, int[]> SIMPLE = new LinkedHashMap<>();
    private static final Map<String, int[]> ALL = new LinkedHashMap<>();

    static {
        SIMPLE.put("triangle", Shapes.TRIANGLE);
        SIMPLE.put("square", Shapes.SQUARE);
        SIMPLE.put("all kinds", Shapes.ALL_KINDS);
        SIMPLE.put("flat", Shapes.FLAT);
        SIMPLE.put("comb", Shapes.COMB);

        ALL.putAll(SIMPLE);
        ALL.put("nothing", new int[] {});
        ALL.put("two corners", new int[] {3, 5, 7, 1});
        ALL.put("clockwise", Shapes.reversed(Shapes.ALL_KINDS));
        ALL.put("repeated", Shapes.REPEATED);
        ALL.put("folded", Shapes.FOLDED);
        ALL.put("bow tie", Shapes.BOW_TIE);
    }

    public static void main(String[] args) {
        onePerCallOrFromTheEnd();
        formerListsLeaveNoTrace();
        otherObjectsLeaveNoTrace();
        firstCornerDoesNotMatter();
        senseOfTurningDoesNotMatter();
        due.end();
    }

    private static void onePerCallOrFromTheEnd() {
        due.sentence("corners are appended one per call or removed from the end");
        int[] list = Shapes.convex(32);
        MonotoneTriang shape = new MonotoneTriang(32);
        for (int n = 1; n <= 32; n++) {
            shape.addVertex(list[2 * n - 2], list[2 * n - 1]);
            Corners.are(due, "after addVertex", shape, Shapes.convex(n));
        }
        for (int n = 31; n >= 0; n--) {
            shape.removeLast();
            Corners.are(due, "after removeLast()", shape, Shapes.convex(n));
        }
    }

    private static void formerListsLeaveNoTrace() {
        due.sentence("Every answer depends only on the corner list: not on former ones");
        ALL.forEach((former, formerList) -> ALL.forEach((name, list) -> {
            String pair = name + " after " + former;
            alikeOnceFilled(pair + ", reset,", list, () -> emptiedAtOnce(formerList));
            alikeOnceFilled(pair + ", removed,", list, () -> emptiedOneByOne(formerList));
        }));
    }

    private static MonotoneTriang emptiedAtOnce(int[] list) {
        MonotoneTriang shape = Shapes.triangulated(list);
        shape.reset();
        return shape;
    }

    private static MonotoneTriang emptiedOneByOne(int[] list) {
        MonotoneTriang shape = Shapes.reopened(list);
        for (int n = list.length / 2; n > 0; n--) {
            shape.removeLast();
        }
        return shape;
    }

    /** Fills the maker's empty objects and compares them with new ones, before and after. */
    private static void alikeOnceFilled(
            String name, int[] list, Supplier<MonotoneTriang> emptyMaker) {
        Supplier<MonotoneTriang> filled = () -> {
            MonotoneTriang shape = emptyMaker.get();
            Shapes.append(shape, list);
            return shape;
        };
        Twins.alike(due, name + " answers as if new", () -> Shapes.editing(list), filled);
        Twins.alike(due, name + " answers as if new once triangulated",
                () -> Shapes.triangulated(list), () -> {
                    MonotoneTriang shape = filled.get();
                    shape.triangulate();
                    return shape;
                });
    }

    private static void otherObjectsLeaveNoTrace() {
        due.sentence("Every answer depends only on the corner list: not on other objects");
        ALL.forEach((other, otherList) -> ALL.forEach((name, list) ->
                Twins.unchanged(due, other + " beside " + name, () -> Shapes.triangulated(list),
                        shape -> Shapes.everything(Shapes.triangulated(otherList)))));
    }

    private static void firstCornerDoesNotMatter() {
        due.sentence("never on which triangulation was chosen: from whichever corner it began");
        SIMPLE.forEach((name, list) -> {
            int n = list.length / 2;
            MonotoneTriang shape = Shapes.triangulated(list);
            for (int k = 1; k < n; k++) {
                int shift = k;
                MonotoneTriang shifted = Shapes.triangulated(Shapes.shifted(list, shift));
                String from = name + " from corner " + shift;
                due.is(from + ": area2()", shifted.area2(), shape.area2());
                sameResult(from, shifted, shape, i -> (i + shift) % n);
            }
        });
    }

    private static void senseOfTurningDoesNotMatter() {
        due.sentence("never on which triangulation was chosen: in whichever sense it went");
        SIMPLE.forEach((name, list) -> {
            int n = list.length / 2;
            MonotoneTriang shape = Shapes.triangulated(list);
            MonotoneTriang turned = Shapes.triangulated(Shapes.reversed(list));
            due.is(name + " reversed: area2()", turned.area2(), -shape.area2());
            sameResult(name + " reversed", turned, shape, i -> n - 1 - i);
        });
    }

    /** Whether both are the same polygon; index tells where a corner of one is in the other. */
    private static void sameResult(
            String name, MonotoneTriang one, MonotoneTriang other, IntUnaryOperator index) {
        due.is(name + ": triangleCount()", one.triangleCount(), other.triangleCount());
        due.is(name + ": triangleAreaSum()", one.triangleAreaSum(), other.triangleAreaSum());
        for (int i = 0; i < one.vertexCount(); i++) {
            int k = index.applyAsInt(i);
            due.is(name + ": vertexKind(" + i + ")", one.vertexKind(i), other.vertexKind(k));
            for (int j = 0; j < one.vertexCount(); j++) {
                due.is(name + ": isDiagonal(" + i + ", " + j + ")",
                        one.isDiagonal(i, j), other.isDiagonal(k, index.applyAsInt(j)));
            }
        }
        for (int kind = MonotoneTriang.KIND_START; kind <= MonotoneTriang.KIND_REGULAR; kind++) {
            due.is(name + ": kindCount(" + kind + ")", one.kindCount(kind), other.kindCount(kind));
        }
        for (int x = -1; x <= 32; x++) {
            for (int y = -1; y <= 13; y++) {
                due.is(name + ": locate(" + x + ", " + y + ")",
                        one.locate(x, y), other.locate(x, y));
            }
        }
    }
}
