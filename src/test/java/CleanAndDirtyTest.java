/** Terms, 'CLEAN AND DIRTY': each condition, and each call that the rule names. */
public final class CleanAndDirtyTest {
    private static final String NO = "............";

    public static void main(String[] args) {
        atTheStartAllAreDirty();
        aNewWindowIsDirty();
        aNewWindowWithAnOldNumberIsDirty();
        aNewWindowInAnOtherIsDirty();
        whatComesFromBeyondTheScreenIsDirty();
        whatComesFromBeyondARowsEndIsDirty();
        whatASiblingCoveredIsDirty();
        whatAWindowInsideCoveredIsDirty();
        whatTheParentCutOffIsDirty();
        whatAHiddenWindowHadIsDirty();
        whatWasDirtyGoesAlong();
        windowsInsideAreMeasuredFromTheirOwnCorners();
        destroyUncoversDirtyPixels();
        sizeKeepsWhatStays();
        raiseKeepsWhatWasOwned();
        showKeepsWhatWasOwned();
        whatIsCoveredAndUncoveredIsDirty();
        callsWithoutEffectKeepAll();
        otherCallsKeepTheRest();
        Check.end();
    }

    private static void atTheStartAllAreDirty() {
        DamageScreen screen = new DamageScreen();
        for (int pixel = 0; pixel < 120; pixel++) {
            Check.due("dirty at the start, pixel " + pixel, 1, screen.dirty(pixel % 12, pixel / 12));
        }
    }

    private static void aNewWindowIsDirty() {
        DamageScreen screen = new DamageScreen();
        screen.paint(0);
        screen.spoil(0, 11, 9, 0x11);
        screen.make(0, 0x24);
        Check.dirt("make on a clean base", screen,
            "####........", "####........", NO, NO, NO, NO, NO, NO, NO, "...........#");
        for (int window = 2; window < 6; window++) {
            Check.paintAll(screen);
            screen.make(0, 0x11 + window);
            Check.due("paint(" + window + "), just made", 1 + window, screen.paint(window));
        }
    }

    private static void aNewWindowWithAnOldNumberIsDirty() {
        DamageScreen screen = new DamageScreen();
        screen.make(0, 0x33);
        Check.paintAll(screen);
        screen.destroy(1);
        screen.make(0, 0x33);
        Check.due("paint(1), made at once again", 9, screen.paint(1));
        Check.due("paint(0)", 0, screen.paint(0));
        screen.destroy(1);
        screen.paint(0);
        screen.make(0, 0x33);
        Check.due("paint(1), made again where the base was painted", 9, screen.paint(1));
        // The other window goes away with its parent.
        screen.make(1, 0x22);
        Check.paintAll(screen);
        screen.destroy(1);
        screen.make(0, 0x33);
        screen.make(1, 0x22);
        Check.due("paint(2), made at once again", 4, screen.paint(2));
        Check.due("paint(1), made at once again", 5, screen.paint(1));
    }

    private static void aNewWindowInAnOtherIsDirty() {
        DamageScreen screen = new DamageScreen();
        screen.make(0, 0x44);
        screen.move(1, 2, 2);
        Check.paintAll(screen);
        screen.make(1, 0x12);
        Check.dirt("make in a clean window", screen, NO, NO, "..##........", NO, NO, NO, NO, NO, NO, NO);
        screen.paint(2);
        screen.show(1, false);
        screen.paint(0);
        screen.make(1, 0x44);
        Check.due("paint(0), a window is made in a hidden one", 0, screen.paint(0));
    }

    private static void whatComesFromBeyondTheScreenIsDirty() {
        int[][] cases = {
            // offset before and after, dirty pixels of 4 by 4
            {-1, 3, 3, 3, 4}, {-2, 3, 3, 3, 8}, {9, 3, 3, 3, 4}, {11, 3, 3, 3, 12},
            {3, -1, 3, 3, 4}, {3, -3, 3, 3, 12}, {3, 7, 3, 3, 4}, {3, 9, 3, 3, 12},
            {-1, -1, 3, 3, 7}, {9, 7, 3, 3, 7}, {-4, 3, 3, 3, 16}, {12, 3, 3, 3, 16}, {3, 10, 3, 3, 16},
            {3, -4, 3, 3, 16}, {0, 0, 8, 6, 0}, {8, 6, 0, 0, 0}, {8, 0, 0, 6, 0}, {0, 6, 8, 0, 0},
            {-1, 0, 0, 0, 4}, {0, -1, 0, 0, 4}, {9, 6, 8, 6, 4}, {8, 7, 8, 6, 4},
        };
        for (int[] c : cases) {
            DamageScreen screen = new DamageScreen();
            screen.make(0, 0x44);
            screen.move(1, c[0], c[1]);
            Check.paintAll(screen);
            screen.move(1, c[2], c[3]);
            Check.due("paint(1) after moves to " + c[0] + ", " + c[1] + " and " + c[2] + ", " + c[3],
                c[4], screen.paint(1));
        }
    }

    // A pixel just left of a row is not the last one of the row above.
    private static void whatComesFromBeyondARowsEndIsDirty() {
        DamageScreen screen = new DamageScreen();
        screen.make(0, 0xAC);
        Check.paintAll(screen);
        screen.move(1, 1, 0);
        screen.paint(0);
        screen.move(1, 0, 0);
        Check.dirt("moved to the right and back", screen,
            "...........#", "...........#", "...........#", "...........#", "...........#",
            "...........#", "...........#", "...........#", "...........#", "...........#");
        screen.paint(1);
        screen.move(1, -1, 0);
        screen.paint(0);
        screen.move(1, 0, 0);
        Check.dirt("moved to the left and back", screen,
            "#...........", "#...........", "#...........", "#...........", "#...........",
            "#...........", "#...........", "#...........", "#...........", "#...........");
    }

    private static void whatASiblingCoveredIsDirty() {
        DamageScreen screen = new DamageScreen();
        screen.make(0, 0x34);
        screen.make(0, 0x22);
        screen.move(2, 2, 1);
        Check.paintAll(screen);
        screen.move(1, 5, 4);
        Check.dirt("a move from under a window", screen,
            "####........", "##..........", "##..........", NO, NO, ".......##...", ".......##...", NO, NO, NO);
        Check.paintAll(screen);
        screen.move(1, 1, 1);
        screen.paint(0);
        Check.due("paint(1), moved under it again", 0, screen.paint(1));
        Check.due("paint(2), which did not move", 0, screen.paint(2));
    }

    private static void whatAWindowInsideCoveredIsDirty() {
        DamageScreen screen = new DamageScreen();
        screen.make(0, 0x44);
        screen.make(1, 0x22);
        Check.paintAll(screen);
        screen.move(2, 1, 1);
        Check.dirt("a move of a window inside", screen,
            "##..........", "#...........", NO, NO, NO, NO, NO, NO, NO, NO);
        Check.due("paint(2), it went along", 0, screen.paint(2));
        Check.due("paint(1), what it left", 3, screen.paint(1));
        screen.destroy(2);
        Check.due("paint(1), the window inside destroyed", 4, screen.paint(1));
        Check.due("paint(0), which owned none of it", 0, screen.paint(0));
    }

    private static void whatTheParentCutOffIsDirty() {
        DamageScreen screen = new DamageScreen();
        screen.make(0, 0x44);
        screen.move(1, 2, 2);
        screen.make(1, 0x33);
        screen.move(2, 2, -1);
        Check.paintAll(screen);
        screen.move(2, 0, 0);
        Check.dirt("a move into the parent's area", screen,
            NO, NO, "..####......", "....##......", "....#.......", NO, NO, NO, NO, NO);
    }

    private static void whatAHiddenWindowHadIsDirty() {
        DamageScreen screen = new DamageScreen();
        screen.make(0, 0x33);
        screen.make(1, 0x22);
        Check.paintAll(screen);
        screen.show(1, false);
        Check.due("paint(0), 1 hidden", 9, screen.paint(0));
        screen.move(1, 4, 4);
        screen.size(1, 0x44);
        screen.raise(1, true);
        Check.due("paint(0), changes of what is hidden", 0, screen.paint(0));
        screen.show(1, true);
        Check.due("paint(1), shown again", 12, screen.paint(1));
        Check.due("paint(2), shown again with 1", 4, screen.paint(2));
        Check.due("paint(0)", 0, screen.paint(0));
    }

    /** A move by one pixel reads and writes the same pixels, in all eight directions. */
    private static void whatWasDirtyGoesAlong() {
        for (int dx = -1; dx <= 1; dx++) {
            for (int dy = -1; dy <= 1; dy++) {
                DamageScreen screen = new DamageScreen();
                screen.make(0, 0x45);
                screen.move(1, 3, 3);
                Check.paintAll(screen);
                screen.spoil(1, 0, 0, 0x11);
                screen.spoil(1, 2, 1, 0x21);
                screen.spoil(1, 1, 2, 0x12);
                screen.spoil(1, 4, 3, 0x11);
                screen.move(1, 3 + dx, 3 + dy);
                screen.paint(0);
                dirtOfTheWindow(screen, 3 + dx, 3 + dy, "#......##..#....#..#");
                Check.due("paint(1), moved by " + dx + ", " + dy, 6, screen.paint(1));
            }
        }
    }

    private static void dirtOfTheWindow(DamageScreen screen, int left, int top, String due) {
        for (int pixel = 0; pixel < due.length(); pixel++) {
            int x = left + pixel % 5;
            int y = top + pixel / 5;
            Check.due("window at " + left + ", " + top + ", dirty(" + x + ", " + y + ")",
                due.charAt(pixel) == '#' ? 1 : 0, screen.dirty(x, y));
        }
    }

    private static void windowsInsideAreMeasuredFromTheirOwnCorners() {
        DamageScreen screen = new DamageScreen();
        screen.make(0, 0x55);
        screen.make(1, 0x33);
        screen.make(2, 0x22);
        screen.move(2, 1, 1);
        screen.move(3, 1, 1);
        Check.paintAll(screen);
        screen.spoil(1, 0, 0, 0x11);
        screen.spoil(2, 0, 2, 0x11);
        screen.spoil(3, 1, 0, 0x11);
        screen.move(1, 6, 4);
        screen.paint(0);
        Check.dirt("all moved with the outermost one", screen,
            NO, NO, NO, NO, "......#.....", NO, ".........#..", ".......#....", NO, NO);
        screen.move(2, 0, 0);
        screen.paint(1);
        Check.dirt("the inner ones moved, the outermost stands", screen,
            NO, NO, NO, NO, NO, "........#...", "......#.....", NO, NO, NO);
        Check.due("paint(2)", 1, screen.paint(2));
        Check.due("paint(3)", 1, screen.paint(3));
    }

    private static void destroyUncoversDirtyPixels() {
        DamageScreen screen = new DamageScreen();
        screen.paint(0);
        screen.make(0, 0x33);
        screen.make(1, 0x22);
        screen.make(0, 0x22);
        screen.move(3, 5, 0);
        Check.paintAll(screen);
        screen.destroy(1);
        Check.dirt("destroy", screen, "###.........", "###.........", "###.........", NO, NO, NO, NO, NO, NO, NO);
        Check.paintAll(screen);
        screen.show(3, false);
        Check.paintAll(screen);
        screen.destroy(3);
        Check.due("paint(0), a hidden one destroyed", 0, screen.paint(0));
    }

    private static void sizeKeepsWhatStays() {
        DamageScreen screen = new DamageScreen();
        screen.make(0, 0x33);
        screen.move(1, 2, 1);
        Check.paintAll(screen);
        screen.spoil(1, 0, 0, 0x11);
        screen.size(1, 0x25);
        Check.dirt("wider and lower", screen,
            NO, "..#..##.....", ".....##.....", "..###.......", NO, NO, NO, NO, NO, NO);
        Check.paintAll(screen);
        screen.size(1, 0x11);
        screen.size(1, 0x25);
        Check.due("paint(1), small and large again", 9, screen.paint(1));
    }

    private static void raiseKeepsWhatWasOwned() {
        DamageScreen screen = new DamageScreen();
        screen.make(0, 0x44);
        screen.make(0, 0x44);
        screen.move(2, 2, 2);
        Check.paintAll(screen);
        screen.spoil(1, 0, 0, 0x11);
        screen.spoil(2, 3, 3, 0x11);
        screen.raise(1, true);
        Check.dirt("raise of the lower one", screen,
            "#...........", NO, "..##........", "..##........", NO, ".....#......", NO, NO, NO, NO);
        Check.paintAll(screen);
        screen.raise(1, false);
        Check.dirt("and under all again", screen, NO, NO, "..##........", "..##........", NO, NO, NO, NO, NO, NO);
    }

    private static void showKeepsWhatWasOwned() {
        DamageScreen screen = new DamageScreen();
        screen.make(0, 0x44);
        screen.make(0, 0x22);
        screen.move(2, 3, 3);
        Check.paintAll(screen);
        screen.spoil(1, 0, 0, 0x11);
        screen.show(2, false);
        Check.dirt("hidden", screen,
            "#...........", NO, NO, "...##.......", "...##.......", NO, NO, NO, NO, NO);
        Check.paintAll(screen);
        screen.show(2, true);
        Check.dirt("shown", screen, NO, NO, NO, "...##.......", "...##.......", NO, NO, NO, NO, NO);
    }

    private static void whatIsCoveredAndUncoveredIsDirty() {
        DamageScreen screen = new DamageScreen();
        screen.paint(0);
        screen.make(0, 0x22);
        screen.move(1, 15, 15);
        Check.due("paint(0), a new window came and went", 4, screen.paint(0));
        screen.move(1, 4, 4);
        screen.move(1, 5, 4);
        screen.move(1, 15, 0);
        Check.dirt("a window went over it, never painted", screen,
            NO, NO, NO, NO, "....###.....", "....###.....", NO, NO, NO, NO);
    }

    private static void callsWithoutEffectKeepAll() {
        Check.answersAndKeeps("move to the same offset", 0, Screens::three, s -> s.move(1, 1, 1));
        Check.answersAndKeeps("move of a hidden one to the same offset", 0, Screens::hidden, s -> s.move(2, 4, 1));
        Check.answersAndKeeps("size to the same size", 0, Screens::three, s -> s.size(1, 0x66));
        Check.answersAndKeeps("raise of the topmost one", 0, Screens::three, s -> s.raise(3, true));
        Check.answersAndKeeps("raise of the lowest one", 0, Screens::three, s -> s.raise(1, false));
        Check.answersAndKeeps("raise of one without siblings", 0, Screens::three, s -> s.raise(2, true));
        Check.answersAndKeeps("lowering of one without siblings", 0, Screens::three, s -> s.raise(2, false));
        Check.answersAndKeeps("show of a shown one", 0, Screens::three, s -> s.show(2, true));
        Check.answersAndKeeps("hiding of a hidden one", 0, Screens::hidden, s -> s.show(1, false));
    }

    private static void otherCallsKeepTheRest() {
        DamageScreen screen = Screens.three();
        Check.due("paint(2)", 4, screen.paint(2));
        Check.due("paint(1), after paint(2)", 4, screen.paint(1));
        Check.due("spoil(3)", 2, screen.spoil(3, 0, 0, 0x21));
        Check.dirt("paint and spoil", screen, NO, NO, NO, NO, ".....##.....", NO, NO, NO, NO, NO);
    }
}
