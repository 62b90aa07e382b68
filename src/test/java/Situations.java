import java.util.LinkedHashMap;
import java.util.Map;
import java.util.function.Supplier;

/** Ways to make an object in each of the three states, with no, some and all corners that fit. */
final class Situations {
    static final Map<String, Supplier<MonotoneTriang>> EDITING = new LinkedHashMap<>();
    static final Map<String, Supplier<MonotoneTriang>> READY = new LinkedHashMap<>();
    static final Map<String, Supplier<MonotoneTriang>> FAILED = new LinkedHashMap<>();
    static final Map<String, Supplier<MonotoneTriang>> NOT_EDITING = new LinkedHashMap<>();
    static final Map<String, Supplier<MonotoneTriang>> NOT_READY = new LinkedHashMap<>();
    static final Map<String, Supplier<MonotoneTriang>> ALL = new LinkedHashMap<>();

    static {
        EDITING.put("new", () -> new MonotoneTriang(4));
        EDITING.put("one corner", () -> Shapes.editing(3, 5));
        EDITING.put("square", () -> Shapes.editing(Shapes.SQUARE));
        EDITING.put("full with 4", () -> Shapes.editingUpTo(4, Shapes.SQUARE));
        EDITING.put("full with 32", () -> Shapes.editing(Shapes.COMB));
        EDITING.put("reopened when ready", () -> Shapes.reopened(Shapes.ALL_KINDS));
        EDITING.put("reopened when failed", () -> Shapes.reopened(Shapes.BOW_TIE));
        EDITING.put("reset when ready", Situations::resetWhenReady);

        READY.put("triangle", () -> Shapes.triangulated(Shapes.TRIANGLE));
        READY.put("full square", Situations::readyAndFull);
        READY.put("all kinds", () -> Shapes.triangulated(Shapes.ALL_KINDS));
        READY.put("clockwise", () -> Shapes.triangulated(Shapes.reversed(Shapes.ALL_KINDS)));
        READY.put("comb", () -> Shapes.triangulated(Shapes.COMB));
        READY.put("whole plane", () -> Shapes.triangulated(Shapes.WHOLE_PLANE));

        FAILED.put("no corner", () -> Shapes.triangulated());
        FAILED.put("one corner failed", () -> Shapes.triangulated(3, 5));
        FAILED.put("two corners", () -> Shapes.triangulated(3, 5, 7, 1));
        FAILED.put("repeated", () -> Shapes.triangulated(Shapes.REPEATED));
        FAILED.put("folded", () -> Shapes.triangulated(Shapes.FOLDED));
        FAILED.put("bow tie", () -> Shapes.triangulated(Shapes.BOW_TIE));
        FAILED.put("failed once it was ready", Situations::failedOnceReady);

        NOT_EDITING.putAll(READY);
        NOT_EDITING.putAll(FAILED);
        NOT_READY.putAll(EDITING);
        NOT_READY.putAll(FAILED);
        ALL.putAll(EDITING);
        ALL.putAll(NOT_EDITING);
    }

    private Situations() {
    }

    private static MonotoneTriang resetWhenReady() {
        MonotoneTriang shape = Shapes.triangulated(Shapes.ALL_KINDS);
        shape.reset();
        return shape;
    }

    private static MonotoneTriang readyAndFull() {
        MonotoneTriang shape = Shapes.editingUpTo(4, Shapes.SQUARE);
        shape.triangulate();
        return shape;
    }

    /** Kinds and triangles of the simple list must not show through. */
    private static MonotoneTriang failedOnceReady() {
        MonotoneTriang shape = Shapes.reopened(Shapes.ALL_KINDS);
        shape.addVertex(5, 5);
        shape.triangulate();
        return shape;
    }
}
