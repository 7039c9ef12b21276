/** Promise 2: make. */
public final class MakeTest {
    public static void main(String[] args) {
        leastFreeNumber();
        sides();
        placeAndStack();
        aFreedNumberBeginsAnew();
        onlyTheNewWindowIsDirty();
        refusals();
        Check.end();
    }

    private static void leastFreeNumber() {
        DamageScreen screen = new DamageScreen();
        for (int window = 1; window < 6; window++) {
            Check.due("make number " + window, window, screen.make(0, 0x11));
        }
        screen.destroy(4);
        screen.destroy(2);
        Check.due("make with 2 and 4 free", 2, screen.make(0, 0x11));
        Check.due("make with 4 free", 4, screen.make(0, 0x11));
        Check.due("make with none free", -1, screen.make(0, 0x11));
    }

    private static void sides() {
        int[][] cases = {
            // size, width and height that are seen on the screen
            {0x00, 1, 1}, {0x01, 1, 1}, {0x10, 1, 1}, {0x25, 5, 2}, {0x52, 2, 5},
            {0x9B, 11, 9}, {0x1C, 12, 1}, {0x1D, 12, 1}, {0x1F, 12, 1}, {0xC1, 1, 10},
            {0xF1, 1, 10}, {0x0F, 12, 1}, {0xF0, 1, 10}, {0x100, 1, 1}, {0x723, 3, 2},
            {-1, 12, 10}, {-256, 1, 1}, {-221, 3, 2},
            {Integer.MIN_VALUE, 1, 1}, {Integer.MAX_VALUE, 12, 10},
        };
        for (int[] c : cases) {
            DamageScreen screen = new DamageScreen();
            screen.make(0, c[0]);
            Check.due("visible of size " + c[0], c[1] * c[2], screen.visible(1));
            Check.due("last pixel of size " + c[0], 1, screen.owner(c[1] - 1, c[2] - 1));
        }
        // The screen is too small to show a height above 10 otherwise.
        DamageScreen screen = new DamageScreen();
        screen.make(0, 0xFF);
        screen.move(1, -11, -11);
        Check.due("sides above 12 are at least 12", 1, screen.visible(1));
        screen.move(1, -12, 0);
        Check.due("a width above 12 is 12", 0, screen.visible(1));
        screen.move(1, 0, -12);
        Check.due("a height above 12 is 12", 0, screen.visible(1));
        DamageScreen lower = new DamageScreen();
        lower.make(0, 0xBB);
        lower.move(1, -10, -10);
        Check.due("sides of 11 are at least 11", 1, lower.visible(1));
        lower.move(1, -11, 0);
        Check.due("a width of 11", 0, lower.visible(1));
        lower.move(1, 0, -11);
        Check.due("a height of 11", 0, lower.visible(1));
    }

    private static void placeAndStack() {
        DamageScreen screen = new DamageScreen();
        screen.make(0, 0x55);
        screen.move(1, 2, 1);
        screen.make(1, 0x33);
        screen.make(1, 0x22);
        screen.make(0, 0x24);
        screen.make(4, 0x11);
        Check.owners("a new window is at its parent's corner and on top", screen,
            "544400000000",
            "444421100000",
            "003321100000",
            "002221100000",
            "001111100000",
            "001111100000",
            "000000000000",
            "000000000000",
            "000000000000",
            "000000000000");
    }

    private static void aFreedNumberBeginsAnew() {
        DamageScreen screen = new DamageScreen();
        screen.make(0, 0x22);
        screen.make(0, 0x22);
        screen.move(1, 5, 5);
        screen.show(1, false);
        screen.raise(1, false);
        screen.destroy(1);
        screen.make(0, 0x11);
        Check.due("a freed number is shown, on top, at (0, 0)", 1, screen.owner(0, 0));
        Check.due("a freed number has its new size", 1, screen.visible(1));
        Check.due("a freed number is dirty", 1, screen.paint(1));
    }

    private static void onlyTheNewWindowIsDirty() {
        DamageScreen screen = new DamageScreen();
        screen.paint(0);
        screen.make(0, 0x23);
        Check.dirt("make", screen,
            "###.........",
            "###.........",
            "............",
            "............",
            "............",
            "............",
            "............",
            "............",
            "............",
            "............");
    }

    private static void refusals() {
        DamageScreen screen = oneWindow();
        int[] wrongParents = {-1, 2, 5, 6, 7, 15, 256, Integer.MIN_VALUE, Integer.MAX_VALUE};
        for (int parent : wrongParents) {
            Check.due("make(" + parent + ", 17)", -1, screen.make(parent, 17));
        }
        Check.sameState("a make without a parent", oneWindow(), screen);
        DamageScreen full = allWindows();
        Check.due("make(0, 17) with all windows there", -1, full.make(0, 17));
        Check.due("make(3, 17) with all windows there", -1, full.make(3, 17));
        Check.sameState("a make with all windows there", allWindows(), full);
    }

    private static DamageScreen oneWindow() {
        DamageScreen screen = new DamageScreen();
        screen.make(0, 0x45);
        screen.paint(0);
        return screen;
    }

    private static DamageScreen allWindows() {
        DamageScreen screen = oneWindow();
        for (int window = 2; window < 6; window++) {
            screen.make(1, 0x11);
        }
        screen.paint(0);
        return screen;
    }
}
