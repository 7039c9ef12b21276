/** Promise 4: move, and what it leaves clean. */
public final class MoveTest {
    public static void main(String[] args) {
        offsetIsFromTheParent();
        cleanPixelsGoAlong();
        whatComesFromOutsideIsDirty();
        whatWasCoveredIsDirty();
        dirtyPixelsGoAlong();
        windowsInsideGoAlong();
        aMoveToTheSamePlace();
        aHiddenWindowMoves();
        theEdgesOfTheOffset();
        refusals();
        Check.end();
    }

    private static void offsetIsFromTheParent() {
        DamageScreen screen = new DamageScreen();
        screen.make(0, 0x55);
        screen.move(1, 4, 3);
        screen.make(1, 0x32);
        screen.move(2, 4, -1);
        Check.owners("an offset from the parent, cut by the parent", screen,
            "000000000000",
            "000000000000",
            "000000000000",
            "000011112000",
            "000011112000",
            "000011111000",
            "000011111000",
            "000011111000",
            "000000000000",
            "000000000000");
        screen.move(2, 1, 2);
        Check.due("a move replaces the offset", 2, screen.owner(5, 5));
        Check.due("visible(2) whole in the parent", 6, screen.visible(2));
    }

    private static void cleanPixelsGoAlong() {
        DamageScreen screen = new DamageScreen();
        screen.make(0, 0x33);
        Check.paintAll(screen);
        Check.due("move(1, 2, 1)", 0, screen.move(1, 2, 1));
        Check.dirt("only what the base gained is dirty", screen,
            "###.........",
            "##..........",
            "##..........",
            "............",
            "............",
            "............",
            "............",
            "............",
            "............",
            "............");
    }

    private static void whatComesFromOutsideIsDirty() {
        DamageScreen screen = new DamageScreen();
        screen.make(0, 0x34);
        screen.move(1, -2, 8);
        Check.paintAll(screen);
        screen.move(1, 1, 6);
        Check.dirt("what was off the screen is dirty", screen,
            "............",
            "............",
            "............",
            "............",
            "............",
            "............",
            ".##.........",
            ".##.........",
            "#####.......",
            "##..........");
        screen.paint(1);
        screen.paint(0);
        screen.move(1, 10, 9);
        screen.paint(0);
        screen.move(1, 8, 7);
        Check.dirt("what was beyond the far edges is dirty", screen,
            "............",
            "............",
            "............",
            "............",
            "............",
            "............",
            "............",
            "..........##",
            "........####",
            "........####");
    }

    private static void whatWasCoveredIsDirty() {
        DamageScreen screen = new DamageScreen();
        screen.make(0, 0x34);
        screen.make(0, 0x22);
        screen.move(2, 2, 1);
        Check.paintAll(screen);
        screen.move(1, 5, 4);
        Check.dirt("what another window covered is dirty", screen,
            "####........",
            "##..........",
            "##..........",
            "............",
            "............",
            ".......##...",
            ".......##...",
            "............",
            "............",
            "............");
    }

    private static void dirtyPixelsGoAlong() {
        DamageScreen screen = new DamageScreen();
        screen.make(0, 0x33);
        Check.paintAll(screen);
        screen.spoil(1, 1, 1, 0x11);
        screen.move(1, 6, 5);
        screen.paint(0);
        Check.due("dirty(7, 6)", 1, screen.dirty(7, 6));
        Check.due("paint(1) after the move", 1, screen.paint(1));
    }

    private static void windowsInsideGoAlong() {
        DamageScreen screen = new DamageScreen();
        screen.make(0, 0x44);
        screen.make(1, 0x22);
        screen.make(2, 0x11);
        screen.move(2, 1, 1);
        screen.move(3, 1, 1);
        Check.paintAll(screen);
        screen.move(1, 6, 4);
        Check.due("owner(7, 5)", 2, screen.owner(7, 5));
        Check.due("owner(8, 6)", 3, screen.owner(8, 6));
        Check.due("paint(1)", 0, screen.paint(1));
        Check.due("paint(2)", 0, screen.paint(2));
        Check.due("paint(3)", 0, screen.paint(3));
        Check.due("paint(0)", 16, screen.paint(0));
    }

    private static DamageScreen movedWindow() {
        DamageScreen screen = new DamageScreen();
        screen.make(0, 0x44);
        screen.move(1, 2, 2);
        screen.paint(1);
        return screen;
    }

    private static void aMoveToTheSamePlace() {
        DamageScreen screen = movedWindow();
        Check.due("move to the same offset", 0, screen.move(1, 2, 2));
        Check.sameState("a move to the same offset", movedWindow(), screen);
    }

    private static void aHiddenWindowMoves() {
        DamageScreen screen = new DamageScreen();
        screen.make(0, 0x22);
        Check.paintAll(screen);
        screen.show(1, false);
        screen.paint(0);
        Check.due("move of a hidden window", 0, screen.move(1, 3, 3));
        Check.due("paint(0), nothing changed", 0, screen.paint(0));
        screen.show(1, true);
        Check.due("owner(3, 3)", 1, screen.owner(3, 3));
        Check.due("paint(1), shown at the new place", 4, screen.paint(1));
    }

    private static void theEdgesOfTheOffset() {
        DamageScreen screen = new DamageScreen();
        screen.make(0, 0xCC);
        screen.make(1, 0xCC);
        Check.due("move(1, -15, -15)", 0, screen.move(1, -15, -15));
        Check.due("visible(1) outside", 0, screen.visible(1));
        Check.due("visible(2) in a window outside", 0, screen.visible(2));
        Check.due("move(2, 15, 15)", 0, screen.move(2, 15, 15));
        Check.due("visible(2) on the screen, but outside its parent", 0, screen.visible(2));
        Check.due("move(1, 15, 15)", 0, screen.move(1, 15, 15));
        Check.due("move(1, 15, -15)", 0, screen.move(1, 15, -15));
        Check.due("move(1, -11, -11)", 0, screen.move(1, -11, -11));
        Check.due("visible(1) with a corner far outside", 1, screen.visible(1));
        Check.due("move(2, 11, 11)", 0, screen.move(2, 11, 11));
        Check.due("owner(0, 0)", 2, screen.owner(0, 0));
    }

    private static void refusals() {
        DamageScreen screen = movedWindow();
        int[] wrongWindows = {0, -1, 2, 5, 6, 100, Integer.MIN_VALUE, Integer.MAX_VALUE};
        for (int window : wrongWindows) {
            Check.due("move(" + window + ", 3, 3)", -1, screen.move(window, 3, 3));
        }
        int[] wrongOffsets = {-16, 16, 17, 100, -100, Integer.MIN_VALUE, Integer.MAX_VALUE};
        for (int offset : wrongOffsets) {
            Check.due("move(1, " + offset + ", 0)", -1, screen.move(1, offset, 0));
            Check.due("move(1, 0, " + offset + ")", -1, screen.move(1, 0, offset));
        }
        // A call that keeps everything would bring to light an offset that was taken after all.
        screen.size(1, 0x44);
        Check.sameState("a refused move", movedWindow(), screen);
    }
}
