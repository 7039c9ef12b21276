/** Terms: the screen, the windows and the base, corners and rectangles, areas and owners. */
public final class TermsTest {
    public static void main(String[] args) {
        firstAndLastColumnAndRow();
        everyPixelCanBeAWindows();
        theBaseIsAlwaysThereAndShown();
        theBaseLiesAtTheScreensCorner();
        noWindowButTheBaseAtTheStart();
        windowsAreUpToFive();
        anyWindowCanBeAParent();
        sidesFromOneToTwelve();
        aCornerIsTheParentsPlusTheOffset();
        aRectangleEndsBeforeItsFarSides();
        eachTwoSiblingsAreOneAboveTheOther();
        aHiddenWindowHasNoArea();
        aWindowInAHiddenWindowHasNoArea();
        aWindowOutsideItsParentHasNoArea();
        aWindowOutsideTheScreenHasNoArea();
        aWindowIsCutByAllWindowsAroundIt();
        aCoveringWindowHidesWhatIsInTheCoveredOne();
        aWindowInTheTopmostOneIsReachedThroughIt();
        Check.end();
    }

    private static void firstAndLastColumnAndRow() {
        DamageScreen screen = new DamageScreen();
        int[][] corners = {{0, 0}, {11, 0}, {0, 9}, {11, 9}};
        for (int[] corner : corners) {
            Check.due("owner of corner " + corner[0] + ", " + corner[1], 0, screen.owner(corner[0], corner[1]));
            Check.due("dirty of corner " + corner[0] + ", " + corner[1], 1, screen.dirty(corner[0], corner[1]));
        }
        int[][] beyond = {{-1, 0}, {0, -1}, {12, 0}, {11, -1}, {-1, 9}, {0, 10}, {12, 9}, {11, 10}};
        for (int[] place : beyond) {
            Check.due("owner beyond, " + place[0] + ", " + place[1], -1, screen.owner(place[0], place[1]));
            Check.due("dirty beyond, " + place[0] + ", " + place[1], -1, screen.dirty(place[0], place[1]));
        }
    }

    private static void everyPixelCanBeAWindows() {
        for (int y = 0; y < 10; y++) {
            DamageScreen screen = new DamageScreen();
            screen.make(0, 0x11);
            screen.paint(0);
            for (int x = 0; x < 12; x++) {
                String where = " at " + x + ", " + y;
                screen.move(1, x, y);
                Check.due("visible(1)" + where, 1, screen.visible(1));
                Check.due("visible(0)" + where, 119, screen.visible(0));
                Check.due("owner" + where, 1, screen.owner(x, y));
                Check.due("dirty" + where, 1, screen.dirty(x, y));
                Check.due("paint(1)" + where, 1, screen.paint(1));
                Check.due("dirty of what is painted" + where, 0, screen.dirty(x, y));
                Check.due("spoil(1)" + where, 1, screen.spoil(1, 0, 0, 0x11));
                Check.due("dirty of what is spoiled" + where, 1, screen.dirty(x, y));
            }
        }
    }

    private static void theBaseIsAlwaysThereAndShown() {
        DamageScreen screen = Screens.full();
        screen.destroy(0);
        screen.move(0, 1, 1);
        screen.size(0, 0x11);
        screen.raise(0, true);
        screen.show(0, false);
        for (int window = 1; window < 6; window++) {
            screen.destroy(window);
        }
        Check.due("visible(0) after all", 120, screen.visible(0));
        screen.paint(0);
        Check.due("paint(0) again", 0, screen.paint(0));
        Check.due("make in the base", 1, screen.make(0, 0xFF));
        Check.due("visible(0) when it is covered", 0, screen.visible(0));
        Check.due("paint(0) when it is covered", 0, screen.paint(0));
        Check.due("spoil(0) when it is covered", 0, screen.spoil(0, 0, 0, 0xFF));
    }

    private static void theBaseLiesAtTheScreensCorner() {
        DamageScreen screen = new DamageScreen();
        screen.paint(0);
        Check.due("spoil of its first pixel", 1, screen.spoil(0, 0, 0, 0x11));
        Check.due("dirty(0, 0)", 1, screen.dirty(0, 0));
        Check.due("spoil of its last pixel", 1, screen.spoil(0, 11, 9, 0x11));
        Check.due("dirty(11, 9)", 1, screen.dirty(11, 9));
        Check.due("spoil to the right of it", 0, screen.spoil(0, 12, 0, 0xFF));
        Check.due("spoil below it", 0, screen.spoil(0, 0, 10, 0xFF));
        Check.due("paint(0)", 2, screen.paint(0));
    }

    private static void noWindowButTheBaseAtTheStart() {
        for (int window = 1; window < 6; window++) {
            Check.due("visible(" + window + ")", -1, new DamageScreen().visible(window));
            Check.due("destroy(" + window + ")", -1, new DamageScreen().destroy(window));
            Check.due("make(" + window + ", 17)", -1, new DamageScreen().make(window, 17));
        }
    }

    private static void windowsAreUpToFive() {
        DamageScreen screen = new DamageScreen();
        for (int window = 1; window < 6; window++) {
            Check.due("visible of the next one", -1, screen.visible(window));
            Check.due("make", window, screen.make(0, 0x11));
            screen.move(window, window, 0);
            Check.due("owner(" + window + ", 0)", window, screen.owner(window, 0));
        }
        Check.due("make of a sixth", -1, screen.make(0, 0x11));
        Check.due("visible(6)", -1, screen.visible(6));
    }

    private static void anyWindowCanBeAParent() {
        DamageScreen screen = new DamageScreen();
        for (int parent = 0; parent < 5; parent++) {
            Check.due("make in " + parent, parent + 1, screen.make(parent, 0xCC));
            screen.move(parent + 1, 1, 1);
        }
        int[] due = {21, 19, 17, 15, 13, 35};
        for (int window = 0; window < 6; window++) {
            Check.due("visible(" + window + ") of five in each other", due[window], screen.visible(window));
        }
        DamageScreen chain = Screens.chainOfGreaterParents();
        Check.owners("parents with greater numbers", chain,
            "054321111111", "054321111111", "054321111111", "054321111111", "054321111111",
            "054321111111", "054321111111", "054321111111", "054321111111", "054321111111");
    }

    private static void sidesFromOneToTwelve() {
        DamageScreen screen = new DamageScreen();
        screen.make(0, 0x11);
        Check.due("visible(1), 1 by 1", 1, screen.visible(1));
        screen.size(1, 0xCC);
        Check.due("visible(1), 12 by 12", 120, screen.visible(1));
        screen.move(1, -11, -11);
        Check.due("the last pixel of 12 by 12", 1, screen.owner(0, 0));
        Check.due("visible(1), but for its last pixel outside", 1, screen.visible(1));
        screen.move(1, 11, 9);
        Check.due("the first pixel of 12 by 12", 1, screen.owner(11, 9));
        Check.due("visible(1), but for its first pixel outside", 1, screen.visible(1));
    }

    private static void aCornerIsTheParentsPlusTheOffset() {
        DamageScreen screen = new DamageScreen();
        screen.make(0, 0xCC);
        screen.make(1, 0xCC);
        screen.make(2, 0x22);
        screen.move(1, -9, -8);
        screen.move(2, 11, -1);
        screen.move(3, -1, 10);
        Check.owners("corners outside the screen", screen,
            "112000000000", "113000000000", "113000000000", "111000000000", "000000000000",
            "000000000000", "000000000000", "000000000000", "000000000000", "000000000000");
        Check.paintAll(screen);
        Check.due("spoil from a corner outside the screen", 1, screen.spoil(2, 0, 9, 0x11));
        Check.due("dirty(2, 0)", 1, screen.dirty(2, 0));
    }

    private static void aRectangleEndsBeforeItsFarSides() {
        DamageScreen screen = new DamageScreen();
        screen.make(0, 0x23);
        screen.move(1, 4, 5);
        Check.owners("3 wide and 2 high from (4, 5)", screen,
            "000000000000", "000000000000", "000000000000", "000000000000", "000000000000",
            "000011100000", "000011100000", "000000000000", "000000000000", "000000000000");
    }

    private static void eachTwoSiblingsAreOneAboveTheOther() {
        DamageScreen screen = new DamageScreen();
        for (int window = 1; window < 6; window++) {
            screen.make(0, 0x11);
        }
        for (int one = 1; one < 6; one++) {
            for (int other = 1; other < 6; other++) {
                if (one != other) {
                    twoShown(screen, one, other);
                }
            }
        }
    }

    private static void twoShown(DamageScreen screen, int one, int other) {
        for (int window = 1; window < 6; window++) {
            screen.show(window, window == one || window == other);
        }
        Check.due("the upper one of " + one + " and " + other, one > other ? one : other, screen.owner(0, 0));
        Check.due("the lower one of " + one + " and " + other, 0, screen.visible(one < other ? one : other));
    }

    private static void aHiddenWindowHasNoArea() {
        DamageScreen screen = new DamageScreen();
        screen.make(0, 0x33);
        screen.make(0, 0x33);
        screen.show(2, false);
        Check.due("owner(0, 0), the upper one hidden", 1, screen.owner(0, 0));
        Check.due("visible(2), hidden", 0, screen.visible(2));
        Check.due("visible(1)", 9, screen.visible(1));
        screen.show(1, false);
        Check.due("owner(0, 0), both hidden", 0, screen.owner(0, 0));
        Check.due("visible(0)", 120, screen.visible(0));
    }

    private static void aWindowInAHiddenWindowHasNoArea() {
        for (int hidden = 1; hidden < 6; hidden++) {
            DamageScreen screen = new DamageScreen();
            for (int parent = 0; parent < 5; parent++) {
                screen.make(parent, 0xCC);
            }
            screen.show(hidden, false);
            Check.due("owner(0, 0) with " + hidden + " hidden", hidden - 1, screen.owner(0, 0));
            for (int window = 0; window < 6; window++) {
                int due = window == hidden - 1 ? 120 : 0;
                Check.due("visible(" + window + ") with " + hidden + " hidden", due, screen.visible(window));
            }
        }
    }

    private static void aWindowOutsideItsParentHasNoArea() {
        // A window of 2 by 2 in one of 4 by 3 at (5, 4): just inside and just outside on each side.
        int[][] cases = {
            // dx, dy, pixels that are seen
            {-1, 0, 2}, {-2, 0, 0}, {3, 0, 2}, {4, 0, 0}, {0, -1, 2}, {0, -2, 0}, {0, 2, 2}, {0, 3, 0},
            {-1, -1, 1}, {3, 2, 1}, {4, 3, 0}, {-2, -2, 0},
        };
        for (int[] c : cases) {
            DamageScreen screen = new DamageScreen();
            screen.make(0, 0x34);
            screen.move(1, 5, 4);
            screen.make(1, 0x22);
            screen.move(2, c[0], c[1]);
            String where = " with 2 at " + c[0] + ", " + c[1];
            Check.due("visible(2)" + where, c[2], screen.visible(2));
            Check.due("visible(1)" + where, 12 - c[2], screen.visible(1));
            Check.due("visible(0)" + where, 108, screen.visible(0));
        }
    }

    private static void aWindowOutsideTheScreenHasNoArea() {
        int[][] cases = {
            // dx, dy, pixels that are seen of 3 by 2
            {-2, 0, 2}, {-3, 0, 0}, {11, 0, 2}, {12, 0, 0}, {0, -1, 3}, {0, -2, 0}, {0, 9, 3}, {0, 10, 0},
            {-2, -1, 1}, {11, 9, 1}, {-2, 9, 1}, {11, -1, 1}, {12, 10, 0}, {-3, -2, 0},
            {9, 8, 6}, {10, 8, 4}, {15, 15, 0}, {-15, -15, 0},
        };
        for (int[] c : cases) {
            DamageScreen screen = new DamageScreen();
            screen.make(0, 0x23);
            screen.make(1, 0x23);
            screen.move(1, c[0], c[1]);
            String where = " with 1 at " + c[0] + ", " + c[1];
            Check.due("visible(1), covered by 2," + where, 0, screen.visible(1));
            Check.due("visible(2)" + where, c[2], screen.visible(2));
            Check.due("visible(0)" + where, 120 - c[2], screen.visible(0));
        }
    }

    private static void aWindowIsCutByAllWindowsAroundIt() {
        DamageScreen screen = new DamageScreen();
        screen.make(0, 0x44);
        screen.move(1, 4, 3);
        screen.make(1, 0x66);
        screen.move(2, 2, -2);
        screen.make(2, 0x39);
        screen.move(3, -3, 3);
        Check.owners("3 in 2 in 1", screen,
            "000000000000", "000000000000", "000000000000", "000011220000", "000011330000",
            "000011330000", "000011330000", "000000000000", "000000000000", "000000000000");
        screen.size(1, 0x31);
        Check.due("visible(3), in 2, but not in 1", 0, screen.visible(3));
        Check.due("visible(2), not in 1", 0, screen.visible(2));
        Check.due("visible(1)", 3, screen.visible(1));
    }

    private static void aCoveringWindowHidesWhatIsInTheCoveredOne() {
        DamageScreen screen = new DamageScreen();
        screen.make(0, 0x66);
        screen.make(0, 0x66);
        screen.make(1, 0x66);
        screen.raise(3, true);
        Check.due("owner(0, 0), 2 over 1 with 3 in it", 2, screen.owner(0, 0));
        Check.due("visible(3)", 0, screen.visible(3));
        screen.move(2, 1, 1);
        Check.due("visible(3), partly uncovered", 11, screen.visible(3));
        Check.due("visible(1), covered by 3", 0, screen.visible(1));
    }

    private static void aWindowInTheTopmostOneIsReachedThroughIt() {
        DamageScreen screen = new DamageScreen();
        screen.make(0, 0x66);
        screen.make(1, 0x22);
        screen.make(1, 0x22);
        screen.make(3, 0x11);
        screen.raise(2, true);
        Check.due("owner(0, 0), 2 over 3 with 4 in it", 2, screen.owner(0, 0));
        screen.raise(3, true);
        Check.due("owner(0, 0), 4 in 3 over 2", 4, screen.owner(0, 0));
        Check.due("owner(1, 1), beside 4", 3, screen.owner(1, 1));
        Check.due("owner(2, 2), beside 2 and 3", 1, screen.owner(2, 2));
        Check.due("owner(6, 6), beside 1", 0, screen.owner(6, 6));
    }
}
