import java.util.ArrayList;
import java.util.Arrays;
import java.util.List;

/**
 * The document's Terms and promises, written down once more as plainly as can be: areas are sought
 * outwards over the parents, siblings stand in lists, and each change works on a copy of the state.
 * It shares no line with DamageScreen, so that a fault of one shows against the other.
 */
final class PlainModel {
    private static final class Window {
        int number;
        Window parent;
        int dx;
        int dy;
        int width;
        int height;
        boolean shown = true;
        final List<Window> inside = new ArrayList<>();

        int left() {
            return parent == null ? 0 : parent.left() + dx;
        }

        int top() {
            return parent == null ? 0 : parent.top() + dy;
        }

        boolean hasInArea(int x, int y) {
            if (parent == null) {
                return onScreen(x, y);
            }
            boolean inRectangle = left() <= x && x < left() + width && top() <= y && y < top() + height;
            return shown && inRectangle && parent.hasInArea(x, y);
        }

        int count() {
            int all = 1;
            for (Window window : inside) {
                all += window.count();
            }
            return all;
        }
    }

    private final Window base = new Window();
    private boolean[][] dirty = new boolean[12][10];

    private int[][] ownerBefore;
    private boolean[][] dirtyBefore;
    private int[] leftBefore;
    private int[] topBefore;
    private boolean[] thereBefore;

    PlainModel() {
        base.width = 12;
        base.height = 10;
        for (boolean[] column : dirty) {
            Arrays.fill(column, true);
        }
    }

    int make(int parent, int size) {
        Window outer = find(parent);
        int number = 1;
        while (number < 6 && find(number) != null) {
            number++;
        }
        if (outer == null || number == 6) {
            return -1;
        }
        begin();
        Window window = new Window();
        window.number = number;
        window.parent = outer;
        setSize(window, size);
        outer.inside.add(window);
        end();
        return number;
    }

    int destroy(int number) {
        Window window = find(number);
        if (window == null || window == base) {
            return -1;
        }
        begin();
        window.parent.inside.remove(window);
        end();
        return window.count();
    }

    int move(int number, int dx, int dy) {
        Window window = find(number);
        if (window == null || window == base || dx < -15 || dx > 15 || dy < -15 || dy > 15) {
            return -1;
        }
        begin();
        window.dx = dx;
        window.dy = dy;
        end();
        return 0;
    }

    int size(int number, int size) {
        Window window = find(number);
        if (window == null || window == base) {
            return -1;
        }
        begin();
        setSize(window, size);
        end();
        return 0;
    }

    int raise(int number, boolean up) {
        Window window = find(number);
        if (window == null || window == base) {
            return -1;
        }
        begin();
        List<Window> siblings = window.parent.inside;
        siblings.remove(window);
        siblings.add(up ? siblings.size() : 0, window);
        end();
        return 0;
    }

    int show(int number, boolean on) {
        Window window = find(number);
        if (window == null || window == base) {
            return -1;
        }
        begin();
        window.shown = on;
        end();
        return 0;
    }

    int paint(int number) {
        if (find(number) == null) {
            return -1;
        }
        int count = 0;
        for (int x = 0; x < 12; x++) {
            for (int y = 0; y < 10; y++) {
                if (owner(x, y) == number) {
                    count += dirty[x][y] ? 1 : 0;
                    dirty[x][y] = false;
                }
            }
        }
        return count;
    }

    int spoil(int number, int x, int y, int wide) {
        Window window = find(number);
        if (window == null || x < 0 || x > 15 || y < 0 || y > 15 || wide < 0 || wide > 255) {
            return -1;
        }
        int left = window.left() + x;
        int top = window.top() + y;
        int count = 0;
        for (int px = 0; px < 12; px++) {
            for (int py = 0; py < 10; py++) {
                boolean inside = px >= left && px < left + wide / 16 && py >= top && py < top + wide % 16;
                if (inside && owner(px, py) == number) {
                    count += dirty[px][py] ? 0 : 1;
                    dirty[px][py] = true;
                }
            }
        }
        return count;
    }

    int owner(int x, int y) {
        if (!onScreen(x, y)) {
            return -1;
        }
        Window present = base;
        for (Window next = base; next != null; ) {
            present = next;
            next = null;
            for (Window window : present.inside) {
                if (window.hasInArea(x, y)) {
                    next = window;
                }
            }
        }
        return present.number;
    }

    int dirty(int x, int y) {
        return !onScreen(x, y) ? -1 : dirty[x][y] ? 1 : 0;
    }

    int visible(int number) {
        if (find(number) == null) {
            return -1;
        }
        int count = 0;
        for (int x = 0; x < 12; x++) {
            for (int y = 0; y < 10; y++) {
                count += owner(x, y) == number ? 1 : 0;
            }
        }
        return count;
    }

    private static boolean onScreen(int x, int y) {
        return x >= 0 && x < 12 && y >= 0 && y < 10;
    }

    private Window find(int number) {
        List<Window> all = new ArrayList<>();
        all.add(base);
        for (int i = 0; i < all.size(); i++) {
            if (all.get(i).number == number) {
                return all.get(i);
            }
            all.addAll(all.get(i).inside);
        }
        return null;
    }

    private static void setSize(Window window, int size) {
        window.width = Math.min(12, Math.max(1, size & 15));
        window.height = Math.min(12, Math.max(1, (size >> 4) & 15));
    }

    private void begin() {
        ownerBefore = new int[12][10];
        dirtyBefore = dirty;
        leftBefore = new int[6];
        topBefore = new int[6];
        thereBefore = new boolean[6];
        for (int x = 0; x < 12; x++) {
            for (int y = 0; y < 10; y++) {
                ownerBefore[x][y] = owner(x, y);
            }
        }
        for (int number = 0; number < 6; number++) {
            Window window = find(number);
            thereBefore[number] = window != null;
            leftBefore[number] = window == null ? 0 : window.left();
            topBefore[number] = window == null ? 0 : window.top();
        }
    }

    private void end() {
        boolean[][] after = new boolean[12][10];
        for (int x = 0; x < 12; x++) {
            for (int y = 0; y < 10; y++) {
                Window w = find(owner(x, y));
                int qx = x - w.left() + leftBefore[w.number];
                int qy = y - w.top() + topBefore[w.number];
                boolean clean = thereBefore[w.number] && onScreen(qx, qy)
                    && ownerBefore[qx][qy] == w.number && !dirtyBefore[qx][qy];
                after[x][y] = !clean;
            }
        }
        dirty = after;
    }
}
