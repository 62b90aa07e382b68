import java.util.LinkedHashMap;
import java.util.Map;
import java.util.function.Consumer;
import java.util.function.Function;
import java.util.function.IntFunction;
import java.util.function.Supplier;

/**
 * Finds out whether a call changes an object: a twin, made in the same way, is spared the call,
 * and from then on both must answer alike. Each later question is put to a new pair of twins, so
 * that no question can hide what another one would have shown.
 */
final class Twins {
    /** What an object answers now, a getter each, for all arguments that matter. */
    static final Map<String, Function<MonotoneTriang, String>> GETTERS = new LinkedHashMap<>();

    /** What it answers to a call that changes it, and after that call. */
    private static final Map<String, Function<MonotoneTriang, String>> CHANGES =
            new LinkedHashMap<>();

    static {
        GETTERS.put("status()", shape -> "" + shape.status());
        GETTERS.put("vertexCount()", shape -> "" + shape.vertexCount());
        GETTERS.put("vertexX(i)", shape -> perIndex(i -> shape.vertexX(i)));
        GETTERS.put("vertexY(i)", shape -> perIndex(i -> shape.vertexY(i)));
        GETTERS.put("area2()", shape -> "" + shape.area2());
        GETTERS.put("vertexKind(i)", shape -> perIndex(i -> shape.vertexKind(i)));
        GETTERS.put("kindCount(kind)", shape -> perIndex(kind -> shape.kindCount(kind)));
        GETTERS.put("triangleCount()", shape -> "" + shape.triangleCount());
        GETTERS.put("triangleAreaSum()", shape -> "" + shape.triangleAreaSum());
        GETTERS.put("locate(x, y)", Twins::locations);
        GETTERS.put("isDiagonal(i, j)", Twins::diagonals);

        CHANGES.put("addVertex(-7, 3)", shape -> shape.addVertex(-7, 3) + outline(shape));
        CHANGES.put("removeLast()", shape -> shape.removeLast() + outline(shape));
        CHANGES.put("triangulate()", shape -> shape.triangulate() + outline(shape));
        CHANGES.put("reopen()", shape -> shape.reopen() + outline(shape));
        CHANGES.put("filling it up", shape -> capacityLeft(shape) + outline(shape));
        CHANGES.put("reset()", shape -> {
            shape.reset();
            return outline(shape) + capacityLeft(shape);
        });
        CHANGES.put("reopening and filling it up", shape -> {
            shape.reopen();
            return capacityLeft(shape) + outline(shape);
        });
    }

    private Twins() {
    }

    static void unchanged(
            Due due, String name, Supplier<MonotoneTriang> maker, Consumer<MonotoneTriang> call) {
        alike(due, name + " changed nothing", maker, () -> {
            MonotoneTriang called = maker.get();
            call.accept(called);
            return called;
        });
    }

    /** Whether all answers of the objects of both makers are the same. */
    static void alike(Due due, String name,
            Supplier<MonotoneTriang> one, Supplier<MonotoneTriang> other) {
        Map<String, Function<MonotoneTriang, String>> later = new LinkedHashMap<>(GETTERS);
        later.putAll(CHANGES);
        later.forEach((question, answers) -> {
            boolean same = answers.apply(one.get()).equals(answers.apply(other.get()));
            due.is(name + ", as " + question + " tells,", same, true);
        });
    }

    /** A getter's promise that it changes nothing, whatever the state and the arguments. */
    static void getterChangesNothing(Due due, String getter) {
        Function<MonotoneTriang, String> answers = GETTERS.get(getter);
        Situations.ALL.forEach((name, maker) ->
                unchanged(due, name + ": " + getter, maker, answers::apply));
    }

    private static String perIndex(IntFunction<Object> question) {
        StringBuilder all = new StringBuilder();
        for (int i = -1; i <= MonotoneTriang.MAX_CAPACITY; i++) {
            all.append(question.apply(i)).append(' ');
        }
        for (int i : Shapes.EXTREMES) {
            all.append(question.apply(i)).append(' ');
        }
        return all.toString();
    }

    private static String locations(MonotoneTriang shape) {
        StringBuilder all = new StringBuilder();
        for (int x = -1; x <= 13; x++) {
            for (int y = -1; y <= 13; y++) {
                all.append(shape.locate(x, y));
            }
        }
        for (int out : Shapes.EXTREMES) {
            all.append(shape.locate(out, 1)).append(shape.locate(1, out));
        }
        return all.toString();
    }

    private static String diagonals(MonotoneTriang shape) {
        StringBuilder all = new StringBuilder();
        for (int i = -1; i <= MonotoneTriang.MAX_CAPACITY; i++) {
            for (int j = -1; j <= MonotoneTriang.MAX_CAPACITY; j++) {
                all.append(shape.isDiagonal(i, j) ? '1' : '0');
            }
        }
        return all.toString();
    }

    private static String outline(MonotoneTriang shape) {
        StringBuilder all = new StringBuilder();
        all.append(" status ").append(shape.status()).append(" n ").append(shape.vertexCount());
        for (int i = 0; i < shape.vertexCount(); i++) {
            all.append(' ').append(shape.vertexX(i)).append(',').append(shape.vertexY(i));
            all.append(' ').append(shape.vertexKind(i));
        }
        all.append(" area ").append(shape.area2()).append(' ').append(shape.triangleAreaSum());
        return all.append(" triangles ").append(shape.triangleCount()).append(' ').toString();
    }

    /** How many corners can still be appended; the loop ends even if there is no limit. */
    static int capacityLeft(MonotoneTriang shape) {
        int appended = 0;
        while (appended < 100 && shape.addVertex(appended, 1) >= 0) {
            appended++;
        }
        return appended;
    }
}
