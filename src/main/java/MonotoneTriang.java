/** A triangulation of a simple polygon with integer corners. */
public final class MonotoneTriang {
    public static final int MIN_CAPACITY = 4;
    public static final int MAX_CAPACITY = 32;
    public static final int COORD_MIN = -1000;
    public static final int COORD_MAX = 1000;

    public static final int STATE_EDITING = 0;
    public static final int STATE_READY = 1;
    public static final int STATE_FAILED = 2;

    public static final int RESULT_OK = 0;
    public static final int RESULT_NOT_EDITING = 1;
    public static final int RESULT_TOO_FEW = 2;
    public static final int RESULT_REPEATED = 3;
    public static final int RESULT_CROSSING = 4;

    public static final int KIND_NONE = 0;
    public static final int KIND_START = 1;
    public static final int KIND_SPLIT = 2;
    public static final int KIND_END = 3;
    public static final int KIND_MERGE = 4;
    public static final int KIND_REGULAR = 5;

    public static final int LOC_NONE = 0;
    public static final int LOC_OUTSIDE = 1;
    public static final int LOC_BOUNDARY = 2;
    public static final int LOC_INSIDE = 3;

    private final int capacity;
    private int state;
    private int count;
    private final int[] xs = new int[MAX_CAPACITY];
    private final int[] ys = new int[MAX_CAPACITY];

    // What follows means something in STATE_READY alone; every getter looks at the state first,
    // so leaving that state is all it takes to drop the kinds and the triangulation.
    private final int[] kinds = new int[MAX_CAPACITY];
    private int triangles;
    private final int[] firstCorner = new int[MAX_CAPACITY];
    private final int[] middleCorner = new int[MAX_CAPACITY];
    private final int[] lastCorner = new int[MAX_CAPACITY];

    // The corners not yet cut off while triangulate() runs, counterclockwise.
    private final int[] ring = new int[MAX_CAPACITY];

    public MonotoneTriang(int capacity) {
        if (capacity < MIN_CAPACITY) {
            this.capacity = MIN_CAPACITY;
        } else if (capacity > MAX_CAPACITY) {
            this.capacity = MAX_CAPACITY;
        } else {
            this.capacity = capacity;
        }
        state = STATE_EDITING;
        count = 0;
        triangles = 0;
    }

    public int addVertex(int x, int y) {
        if (state != STATE_EDITING || count >= capacity || !inBounds(x, y)) {
            return -1;
        }
        int index = count;
        xs[index] = x;
        ys[index] = y;
        count = index + 1;
        return index;
    }

    public boolean removeLast() {
        if (state != STATE_EDITING || count == 0) {
            return false;
        }
        count--;
        return true;
    }

    public void reset() {
        count = 0;
        state = STATE_EDITING;
    }

    public int triangulate() {
        if (state != STATE_EDITING) {
            return RESULT_NOT_EDITING;
        }
        int result = RESULT_OK;
        if (count < 3) {
            result = RESULT_TOO_FEW;
        } else if (hasRepeatedCorner()) {
            result = RESULT_REPEATED;
        } else if (hasFoldedCorner() || hasMeetingEdges()) {
            result = RESULT_CROSSING;
        }
        if (result != RESULT_OK) {
            state = STATE_FAILED;
            return result;
        }
        fixKinds();
        cutIntoTriangles();
        state = STATE_READY;
        return RESULT_OK;
    }

    public boolean reopen() {
        if (state == STATE_EDITING) {
            return false;
        }
        state = STATE_EDITING;
        return true;
    }

    public int status() {
        return state;
    }

    public int vertexCount() {
        return count;
    }

    public int vertexX(int i) {
        return isIndex(i) ? xs[i] : 0;
    }

    public int vertexY(int i) {
        return isIndex(i) ? ys[i] : 0;
    }

    public int area2() {
        int sum = 0;
        for (int i = 0; i < count; i++) {
            int j = next(i);
            sum += xs[i] * ys[j] - xs[j] * ys[i];
        }
        return sum;
    }

    public int vertexKind(int i) {
        if (state != STATE_READY || !isIndex(i)) {
            return KIND_NONE;
        }
        return kinds[i];
    }

    public int kindCount(int kind) {
        if (state != STATE_READY || kind < KIND_START || kind > KIND_REGULAR) {
            return 0;
        }
        int found = 0;
        for (int i = 0; i < count; i++) {
            if (kinds[i] == kind) {
                found++;
            }
        }
        return found;
    }

    public int triangleCount() {
        return state == STATE_READY ? triangles : 0;
    }

    public int triangleAreaSum() {
        if (state != STATE_READY) {
            return 0;
        }
        int sum = 0;
        for (int t = 0; t < triangles; t++) {
            int c = lastCorner[t];
            int area = cross(firstCorner[t], middleCorner[t], xs[c], ys[c]);
            sum += area < 0 ? -area : area;
        }
        return sum;
    }

    public int locate(int x, int y) {
        if (state != STATE_READY) {
            return LOC_NONE;
        }
        if (!inBounds(x, y)) {
            return LOC_OUTSIDE;
        }
        if (onBoundary(x, y)) {
            return LOC_BOUNDARY;
        }
        return windsAround(2 * x, 2 * y) ? LOC_INSIDE : LOC_OUTSIDE;
    }

    public boolean isDiagonal(int i, int j) {
        if (state != STATE_READY || !isIndex(i) || !isIndex(j) || i == j) {
            return false;
        }
        if (j == next(i) || i == next(j) || meetsBoundaryBetween(i, j)) {
            return false;
        }
        // Clear of the boundary, the segment lies wholly on one side of it, so its middle tells
        // for all of it. Twice the middle is a whole point where the middle need not be.
        return windsAround(xs[i] + xs[j], ys[i] + ys[j]);
    }

    private boolean inBounds(int x, int y) {
        return x >= COORD_MIN && x <= COORD_MAX && y >= COORD_MIN && y <= COORD_MAX;
    }

    private boolean isIndex(int i) {
        return i >= 0 && i < count;
    }

    private int next(int i) {
        return i + 1 < count ? i + 1 : 0;
    }

    private int prev(int i) {
        return i > 0 ? i - 1 : count - 1;
    }

    /** The document's cross(v_i, v_j, (x, y)). */
    private int cross(int i, int j, int x, int y) {
        return (xs[j] - xs[i]) * (y - ys[i]) - (ys[j] - ys[i]) * (x - xs[i]);
    }

    /** The document's dot((x, y), v_i, v_j). */
    private int dotFrom(int x, int y, int i, int j) {
        return (xs[i] - x) * (xs[j] - x) + (ys[i] - y) * (ys[j] - y);
    }

    private boolean onSegment(int i, int j, int x, int y) {
        return cross(i, j, x, y) == 0 && dotFrom(x, y, i, j) <= 0;
    }

    private boolean hasRepeatedCorner() {
        for (int i = 0; i < count; i++) {
            for (int j = i + 1; j < count; j++) {
                if (xs[i] == xs[j] && ys[i] == ys[j]) {
                    return true;
                }
            }
        }
        return false;
    }

    /** Whether the two edges at some corner overlap. */
    private boolean hasFoldedCorner() {
        for (int i = 0; i < count; i++) {
            int a = prev(i);
            int b = next(i);
            if (cross(i, a, xs[b], ys[b]) == 0 && dotFrom(xs[i], ys[i], a, b) > 0) {
                return true;
            }
        }
        return false;
    }

    /** Whether two edges that are not adjacent have a common point. */
    private boolean hasMeetingEdges() {
        for (int i = 0; i < count; i++) {
            int iEnd = next(i);
            for (int j = i + 1; j < count; j++) {
                int jEnd = next(j);
                if (j != iEnd && i != jEnd && segmentsMeet(i, iEnd, j, jEnd)) {
                    return true;
                }
            }
        }
        return false;
    }

    /** Whether the closed segments v_a v_b and v_c v_d have a common point. */
    private boolean segmentsMeet(int a, int b, int c, int d) {
        if (onSegment(a, b, xs[c], ys[c]) || onSegment(a, b, xs[d], ys[d])) {
            return true;
        }
        if (onSegment(c, d, xs[a], ys[a]) || onSegment(c, d, xs[b], ys[b])) {
            return true;
        }
        // No end touches the other segment now, so an end on the other's line lies beyond that
        // segment, which then has both its ends on one side: no crossing is wrongly seen.
        return separates(a, b, c, d) && separates(c, d, a, b);
    }

    /** Whether the line through v_a and v_b has one of v_c and v_d on its left and one not. */
    private boolean separates(int a, int b, int c, int d) {
        boolean cLeft = cross(a, b, xs[c], ys[c]) > 0;
        boolean dLeft = cross(a, b, xs[d], ys[d]) > 0;
        return cLeft != dLeft;
    }

    private void fixKinds() {
        int s = area2() > 0 ? 1 : -1;
        for (int i = 0; i < count; i++) {
            int p = prev(i);
            int q = next(i);
            boolean convex = s * cross(p, i, xs[q], ys[q]) > 0;
            if (isBelow(p, i) && isBelow(q, i)) {
                kinds[i] = convex ? KIND_START : KIND_SPLIT;
            } else if (isBelow(i, p) && isBelow(i, q)) {
                kinds[i] = convex ? KIND_END : KIND_MERGE;
            } else {
                kinds[i] = KIND_REGULAR;
            }
        }
    }

    private boolean isBelow(int a, int b) {
        return ys[a] < ys[b] || ys[a] == ys[b] && xs[a] > xs[b];
    }

    private void cutIntoTriangles() {
        fillRing();
        triangles = 0;
        for (int left = count; left >= 3; left--) {
            // A simple polygon always has an ear, so if no other place has one the last has.
            int place = 0;
            while (place < left - 1 && !isEar(place, left)) {
                place++;
            }
            cutOff(place, left);
        }
    }

    private void fillRing() {
        boolean counterclockwise = area2() > 0;
        for (int k = 0; k < count; k++) {
            ring[k] = counterclockwise ? k : count - 1 - k;
        }
    }

    private void cutOff(int place, int left) {
        firstCorner[triangles] = ring[place > 0 ? place - 1 : left - 1];
        middleCorner[triangles] = ring[place];
        lastCorner[triangles] = ring[place + 1 < left ? place + 1 : 0];
        triangles++;
        for (int k = place; k + 1 < left; k++) {
            ring[k] = ring[k + 1];
        }
    }

    /** Whether cutting off the corner at this place of the ring leaves a simple polygon. */
    private boolean isEar(int place, int left) {
        int a = ring[place > 0 ? place - 1 : left - 1];
        int b = ring[place];
        int c = ring[place + 1 < left ? place + 1 : 0];
        if (cross(a, b, xs[c], ys[c]) <= 0) {
            return false;
        }
        for (int k = 0; k < left; k++) {
            int v = ring[k];
            if (v != a && v != b && v != c && inTriangle(a, b, c, v)) {
                return false;
            }
        }
        return true;
    }

    /** Whether v_v lies in the closed triangle of the corners a, b, c, given counterclockwise. */
    private boolean inTriangle(int a, int b, int c, int v) {
        int x = xs[v];
        int y = ys[v];
        return cross(a, b, x, y) >= 0 && cross(b, c, x, y) >= 0 && cross(c, a, x, y) >= 0;
    }

    private boolean onBoundary(int x, int y) {
        for (int i = 0; i < count; i++) {
            int j = next(i);
            if (onSegment(i, j, x, y)) {
                return true;
            }
        }
        return false;
    }

    /** Whether the segment v_i v_j has a point of the boundary other than its two ends. */
    private boolean meetsBoundaryBetween(int i, int j) {
        for (int k = 0; k < count; k++) {
            int kEnd = next(k);
            boolean isEnd = k == i || k == j;
            if (!isEnd && onSegment(i, j, xs[k], ys[k])) {
                return true;
            }
            // An edge at v_i or v_j meets the segment elsewhere only by lying along it, and then
            // that edge's other corner is on the segment, as the line above sees.
            boolean sharesEnd = isEnd || kEnd == i || kEnd == j;
            if (!sharesEnd && segmentsMeet(i, j, k, kEnd)) {
                return true;
            }
        }
        return false;
    }

    /**
     * Whether the winding number around a point off the boundary is not zero. The point is given
     * by its doubled coordinates, so that the middle between two corners can be asked for.
     */
    private boolean windsAround(int doubledX, int doubledY) {
        int winding = 0;
        for (int i = 0; i < count; i++) {
            int j = next(i);
            boolean fromAbove = 2 * ys[i] > doubledY;
            boolean toAbove = 2 * ys[j] > doubledY;
            if (fromAbove != toAbove) {
                int side = (xs[j] - xs[i]) * (doubledY - 2 * ys[i])
                        - (ys[j] - ys[i]) * (doubledX - 2 * xs[i]);
                if (toAbove && side > 0) {
                    winding++;
                } else if (fromAbove && side < 0) {
                    winding--;
                }
            }
        }
        return winding != 0;
    }
}
