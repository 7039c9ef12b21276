public final class DamageScreen {
    private static final int COLUMNS = 12;
    private static final int ROWS = 10;
    private static final int PIXELS = COLUMNS * ROWS;
    private static final int WINDOWS = 6;
    private static final int BASE = 0;
    private static final int NONE = -1;
    private static final int REFUSED = -1;
    private static final int LONGEST_SIDE = 12;
    private static final int FARTHEST_OFFSET = 15;
    private static final int LONGEST_SPOIL = 15;

    private final boolean[] there = new boolean[WINDOWS];
    private final int[] parents = new int[WINDOWS];
    private final int[] offsetX = new int[WINDOWS];
    private final int[] offsetY = new int[WINDOWS];
    private final int[] widths = new int[WINDOWS];
    private final int[] heights = new int[WINDOWS];
    private final boolean[] shown = new boolean[WINDOWS];

    // One scale of levels serves all windows: no window changes its parent, so
    // the greatest level of all is also the greatest among any siblings.
    private final int[] levels = new int[WINDOWS];
    private int topLevel = 0;
    private int bottomLevel = 0;

    // These follow from the fields above and are kept, because the rule of
    // clean and dirty asks what they were before a call.
    private final int[] cornerX = new int[WINDOWS];
    private final int[] cornerY = new int[WINDOWS];
    private final int[] owners = new int[PIXELS];

    private final boolean[] clean = new boolean[PIXELS];

    private final int[] formerCornerX = new int[WINDOWS];
    private final int[] formerCornerY = new int[WINDOWS];
    private final int[] formerOwners = new int[PIXELS];
    private final boolean[] formerClean = new boolean[PIXELS];

    public DamageScreen() {
        // The other fields begin as they should: no pixel is clean, and the
        // base, which is number 0, owns every one.
        there[BASE] = true;
    }

    public int make(int parent, int size) {
        int window = leastFreeWindow();
        if (!isThere(parent) || window == NONE) {
            return REFUSED;
        }
        there[window] = true;
        parents[window] = parent;
        offsetX[window] = 0;
        offsetY[window] = 0;
        shown[window] = true;
        setSides(window, size);
        putOnTop(window);
        settle();
        return window;
    }

    public int destroy(int window) {
        if (!isChangeable(window)) {
            return REFUSED;
        }
        there[window] = false;
        int orphans = removeOrphans();
        settle();
        return 1 + orphans;
    }

    public int move(int window, int dx, int dy) {
        if (!isChangeable(window) || !isOffset(dx) || !isOffset(dy)) {
            return REFUSED;
        }
        offsetX[window] = dx;
        offsetY[window] = dy;
        settle();
        return 0;
    }

    public int size(int window, int size) {
        if (!isChangeable(window)) {
            return REFUSED;
        }
        setSides(window, size);
        settle();
        return 0;
    }

    public int raise(int window, boolean up) {
        if (!isChangeable(window)) {
            return REFUSED;
        }
        if (up) {
            putOnTop(window);
        } else {
            putAtBottom(window);
        }
        settle();
        return 0;
    }

    public int show(int window, boolean on) {
        if (!isChangeable(window)) {
            return REFUSED;
        }
        shown[window] = on;
        settle();
        return 0;
    }

    public int paint(int window) {
        if (!isThere(window)) {
            return REFUSED;
        }
        int painted = 0;
        for (int pixel = 0; pixel < PIXELS; pixel++) {
            if (owners[pixel] == window && !clean[pixel]) {
                clean[pixel] = true;
                painted++;
            }
        }
        return painted;
    }

    public int spoil(int window, int x, int y, int wide) {
        // Split like this, the height is in its range for every wide, and the
        // width is in its range only if wide is from 0 to 255.
        int width = wide >> 4;
        int height = wide & 15;
        if (!isThere(window) || !isSpoilNumber(x) || !isSpoilNumber(y) || !isSpoilNumber(width)) {
            return REFUSED;
        }
        int left = cornerX[window] + x;
        int top = cornerY[window] + y;
        int spoiled = 0;
        for (int row = 0; row < height; row++) {
            for (int column = 0; column < width; column++) {
                if (spoilPixel(window, left + column, top + row)) {
                    spoiled++;
                }
            }
        }
        return spoiled;
    }

    public int owner(int x, int y) {
        if (!isOnScreen(x, y)) {
            return REFUSED;
        }
        return owners[pixelAt(x, y)];
    }

    public int dirty(int x, int y) {
        if (!isOnScreen(x, y)) {
            return REFUSED;
        }
        return clean[pixelAt(x, y)] ? 0 : 1;
    }

    public int visible(int window) {
        if (!isThere(window)) {
            return REFUSED;
        }
        int owned = 0;
        for (int pixel = 0; pixel < PIXELS; pixel++) {
            if (owners[pixel] == window) {
                owned++;
            }
        }
        return owned;
    }

    private boolean isThere(int window) {
        return window >= 0 && window < WINDOWS && there[window];
    }

    private boolean isChangeable(int window) {
        return window != BASE && isThere(window);
    }

    private static boolean isOffset(int number) {
        return number >= -FARTHEST_OFFSET && number <= FARTHEST_OFFSET;
    }

    private static boolean isSpoilNumber(int number) {
        return number >= 0 && number <= LONGEST_SPOIL;
    }

    private static boolean isOnScreen(int x, int y) {
        return x >= 0 && x < COLUMNS && y >= 0 && y < ROWS;
    }

    private static int pixelAt(int x, int y) {
        return y * COLUMNS + x;
    }

    private int leastFreeWindow() {
        for (int window = 1; window < WINDOWS; window++) {
            if (!there[window]) {
                return window;
            }
        }
        return NONE;
    }

    private void setSides(int window, int size) {
        widths[window] = sideOf(size & 15);
        heights[window] = sideOf((size >> 4) & 15);
    }

    private static int sideOf(int asked) {
        if (asked == 0) {
            return 1;
        }
        return asked > LONGEST_SIDE ? LONGEST_SIDE : asked;
    }

    private void putOnTop(int window) {
        topLevel++;
        levels[window] = topLevel;
    }

    private void putAtBottom(int window) {
        bottomLevel--;
        levels[window] = bottomLevel;
    }

    private int removeOrphans() {
        int removed = 0;
        // A parent may have a greater number than its child, so one pass may
        // find only one generation; there are fewer generations than windows.
        for (int generation = 1; generation < WINDOWS; generation++) {
            for (int window = 1; window < WINDOWS; window++) {
                if (there[window] && !there[parents[window]]) {
                    there[window] = false;
                    removed++;
                }
            }
        }
        return removed;
    }

    private boolean spoilPixel(int window, int x, int y) {
        if (!isOnScreen(x, y)) {
            return false;
        }
        int pixel = pixelAt(x, y);
        if (owners[pixel] != window || !clean[pixel]) {
            return false;
        }
        clean[pixel] = false;
        return true;
    }

    private void settle() {
        keepFormer();
        placeCorners();
        assignOwners();
        carryClean();
    }

    private void keepFormer() {
        for (int window = 0; window < WINDOWS; window++) {
            formerCornerX[window] = cornerX[window];
            formerCornerY[window] = cornerY[window];
        }
        for (int pixel = 0; pixel < PIXELS; pixel++) {
            formerOwners[pixel] = owners[pixel];
            formerClean[pixel] = clean[pixel];
        }
    }

    private void placeCorners() {
        for (int window = 1; window < WINDOWS; window++) {
            if (there[window]) {
                placeCorner(window);
            }
        }
    }

    private void placeCorner(int window) {
        int x = 0;
        int y = 0;
        int present = window;
        for (int step = 1; step < WINDOWS && present != BASE; step++) {
            x += offsetX[present];
            y += offsetY[present];
            present = parents[present];
        }
        cornerX[window] = x;
        cornerY[window] = y;
    }

    private void assignOwners() {
        for (int y = 0; y < ROWS; y++) {
            for (int x = 0; x < COLUMNS; x++) {
                int pixel = pixelAt(x, y);
                owners[pixel] = findOwner(x, y);
            }
        }
    }

    private int findOwner(int x, int y) {
        int present = BASE;
        for (int step = 1; step < WINDOWS; step++) {
            int next = topmostInside(present, x, y);
            if (next == NONE) {
                return present;
            }
            present = next;
        }
        return present;
    }

    private int topmostInside(int parent, int x, int y) {
        int topmost = NONE;
        for (int window = 1; window < WINDOWS; window++) {
            if (there[window] && parents[window] == parent && covers(window, x, y)) {
                if (topmost == NONE || levels[window] > levels[topmost]) {
                    topmost = window;
                }
            }
        }
        return topmost;
    }

    // The parent's area needs no look here: an owner is sought from the base
    // inwards, only through windows that have the pixel in their area.
    private boolean covers(int window, int x, int y) {
        int column = x - cornerX[window];
        int row = y - cornerY[window];
        return shown[window]
            && column >= 0 && column < widths[window]
            && row >= 0 && row < heights[window];
    }

    private void carryClean() {
        for (int y = 0; y < ROWS; y++) {
            for (int x = 0; x < COLUMNS; x++) {
                int pixel = pixelAt(x, y);
                clean[pixel] = isCarriedClean(owners[pixel], x, y);
            }
        }
    }

    // Whether the window was there before needs no look of its own: only a
    // window that was there can have owned a pixel.
    private boolean isCarriedClean(int window, int x, int y) {
        int formerX = x - cornerX[window] + formerCornerX[window];
        int formerY = y - cornerY[window] + formerCornerY[window];
        if (!isOnScreen(formerX, formerY)) {
            return false;
        }
        int former = pixelAt(formerX, formerY);
        return formerOwners[former] == window && formerClean[former];
    }
}
