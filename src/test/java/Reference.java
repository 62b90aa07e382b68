import java.util.ArrayList;
import java.util.List;

/**
 * The document's words once more, found in other ways than the class does: angles for the
 * interior, crossing parameters for the edges. Slow, and with the Java library.
 */
final class Reference {
    private final int capacity;
    private final List<int[]> corners = new ArrayList<>();
    private int state = 0;

    Reference(int capacity) {
        this.capacity = Math.max(4, Math.min(32, capacity));
    }

    int addVertex(int x, int y) {
        if (state != 0 || corners.size() == capacity || outOfBounds(x, y)) {
            return -1;
        }
        corners.add(new int[] {x, y});
        return corners.size() - 1;
    }

    boolean removeLast() {
        if (state != 0 || corners.isEmpty()) {
            return false;
        }
        corners.remove(corners.size() - 1);
        return true;
    }

    void reset() {
        corners.clear();
        state = 0;
    }

    int triangulate() {
        if (state != 0) {
            return 1;
        }
        int result = judge(corners);
        state = result == 0 ? 1 : 2;
        return result;
    }

    boolean reopen() {
        boolean reopened = state != 0;
        state = 0;
        return reopened;
    }

    int status() {
        return state;
    }

    int vertexCount() {
        return corners.size();
    }

    int vertexX(int i) {
        return isIndex(i) ? corners.get(i)[0] : 0;
    }

    int vertexY(int i) {
        return isIndex(i) ? corners.get(i)[1] : 0;
    }

    int area2() {
        long sum = 0;
        for (int i = 0; i < corners.size(); i++) {
            sum += cross(new int[] {0, 0}, corners.get(i), at(i + 1));
        }
        return Math.toIntExact(sum);
    }

    int vertexKind(int i) {
        if (state != 1 || !isIndex(i)) {
            return 0;
        }
        int[] v = at(i);
        int[] p = at(i - 1);
        int[] q = at(i + 1);
        long c = Integer.signum(area2()) * cross(p, v, q);
        boolean pBelow = height(p) < height(v);
        boolean qBelow = height(q) < height(v);
        if (pBelow != qBelow) {
            return 5;
        }
        return (pBelow ? 1 : 3) + (c > 0 ? 0 : 1);
    }

    int kindCount(int kind) {
        int found = 0;
        for (int i = 0; i < corners.size(); i++) {
            found += kind != 0 && vertexKind(i) == kind ? 1 : 0;
        }
        return found;
    }

    int triangleCount() {
        return state == 1 ? corners.size() - 2 : 0;
    }

    int triangleAreaSum() {
        return state == 1 ? Math.abs(area2()) : 0;
    }

    int locate(int x, int y) {
        if (state != 1) {
            return 0;
        }
        if (outOfBounds(x, y)) {
            return 1;
        }
        for (int i = 0; i < corners.size(); i++) {
            if (covers(at(i), at(i + 1), new int[] {x, y})) {
                return 2;
            }
        }
        return winding(x, y) != 0 ? 3 : 1;
    }

    boolean isDiagonal(int i, int j) {
        int n = corners.size();
        if (state != 1 || !isIndex(i) || !isIndex(j)) {
            return false;
        }
        int apart = Math.floorMod(i - j, n);
        if (apart == 0 || apart == 1 || apart == n - 1) {
            return false;
        }
        int[] a = at(i);
        int[] b = at(j);
        for (int k = 0; k < n; k++) {
            if (openMeetsClosed(a, b, at(k), at(k + 1))) {
                return false;
            }
        }
        return winding((a[0] + b[0]) / 2.0, (a[1] + b[1]) / 2.0) != 0;
    }

    static int judge(List<int[]> list) {
        int n = list.size();
        if (n < 3) {
            return 2;
        }
        for (int i = 0; i < n; i++) {
            for (int j = 0; j < i; j++) {
                if (covers(list.get(i), list.get(i), list.get(j))) {
                    return 3;
                }
            }
        }
        for (int i = 0; i < n; i++) {
            int[] a = list.get(i);
            int[] b = list.get((i + 1) % n);
            int[] c = list.get((i + 2) % n);
            if (covers(a, b, c) || covers(b, c, a)) {
                return 4;
            }
            for (int j = i + 2; j < n && (j + 1) % n != i; j++) {
                if (closedMeetsClosed(a, b, list.get(j), list.get((j + 1) % n))) {
                    return 4;
                }
            }
        }
        return 0;
    }

    private boolean isIndex(int i) {
        return i >= 0 && i < corners.size();
    }

    private int[] at(int i) {
        return corners.get(Math.floorMod(i, corners.size()));
    }

    private static boolean outOfBounds(int x, int y) {
        return Math.abs((long) x) > 1000 || Math.abs((long) y) > 1000;
    }

    /** The place in the document's ORDER: the greater is above the lesser. */
    private static long height(int[] p) {
        return p[1] * 10000L - p[0];
    }

    private static long cross(int[] a, int[] b, int[] c) {
        return (long) (b[0] - a[0]) * (c[1] - a[1]) - (long) (b[1] - a[1]) * (c[0] - a[0]);
    }

    /** Whether p is a point of the closed segment a b. */
    private static boolean covers(int[] a, int[] b, int[] p) {
        return cross(a, b, p) == 0
                && Math.min(a[0], b[0]) <= p[0] && p[0] <= Math.max(a[0], b[0])
                && Math.min(a[1], b[1]) <= p[1] && p[1] <= Math.max(a[1], b[1]);
    }

    private static boolean closedMeetsClosed(int[] a, int[] b, int[] c, int[] d) {
        return openMeetsClosed(a, b, c, d) || covers(c, d, a) || covers(c, d, b);
    }

    /** Whether a point between a and b, these two left out, lies on the closed segment c d. */
    private static boolean openMeetsClosed(int[] a, int[] b, int[] c, int[] d) {
        long dx = b[0] - a[0];
        long dy = b[1] - a[1];
        long ex = d[0] - c[0];
        long ey = d[1] - c[1];
        long bottom = dx * ey - dy * ex;
        if (bottom == 0) {
            long toC = (c[0] - a[0]) * dx + (c[1] - a[1]) * dy;
            long toD = (d[0] - a[0]) * dx + (d[1] - a[1]) * dy;
            return cross(a, b, c) == 0
                    && Math.min(toC, toD) < dx * dx + dy * dy && Math.max(toC, toD) > 0;
        }
        long sign = Long.signum(bottom);
        long along = sign * ((c[0] - a[0]) * ey - (c[1] - a[1]) * ex);
        long across = sign * ((c[0] - a[0]) * dy - (c[1] - a[1]) * dx);
        bottom *= sign;
        return along > 0 && along < bottom && across >= 0 && across <= bottom;
    }

    private long winding(double x, double y) {
        double turn = 0;
        for (int i = 0; i < corners.size(); i++) {
            double ax = at(i)[0] - x;
            double ay = at(i)[1] - y;
            double bx = at(i + 1)[0] - x;
            double by = at(i + 1)[1] - y;
            turn += Math.atan2(ax * by - ay * bx, ax * bx + ay * by);
        }
        return Math.round(turn / (2 * Math.PI));
    }
}
