import java.util.ArrayList;
import java.util.List;

/** Promises 5 and 9 to 16: every list of up to five corners on a small grid, none left out. */
public final class SmallGridTest {
    private static final Due due = new Due();
    private static final int SIDE = 3;
    private static final int MOST_CORNERS = 5;
    private static int simple = 0;

    public static void main(String[] args) {
        for (int n = 0; n <= MOST_CORNERS; n++) {
            int lists = (int) Math.pow(SIDE * SIDE, n);
            for (int number = 0; number < lists; number++) {
                compare(corners(n, number));
            }
        }
        // Of three, four and five corners: 456, 1136 and 2400.
        due.is("simple lists", simple, 3992);
        due.end();
    }

    /** The list whose corners are the number's digits, even so that whole points lie between. */
    private static List<int[]> corners(int n, int number) {
        List<int[]> corners = new ArrayList<>();
        int rest = number;
        for (int i = 0; i < n; i++) {
            int digit = rest % (SIDE * SIDE);
            corners.add(new int[] {2 * (digit % SIDE), 2 * (digit / SIDE)});
            rest /= SIDE * SIDE;
        }
        return corners;
    }

    private static void compare(List<int[]> corners) {
        MonotoneTriang shape = new MonotoneTriang(MOST_CORNERS);
        Reference model = new Reference(MOST_CORNERS);
        String list = Compared.lists(due, corners, shape, model);
        if (shape.status() == MonotoneTriang.STATE_READY) {
            simple++;
            Compared.grid(due, list, shape, model, 2 * SIDE - 1);
        }
    }
}
