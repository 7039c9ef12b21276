/** Promise 4: move, and what it leaves clean. */
public final class MoveTest {
    public static void main(String[] args) {
        offsetIsFromTheParent();
        cleanPixelsGoAlong();
        whatComesFromOutsideIsDirty();
        whatWasCoveredIsDirty();
        dirtyPixelsGoAlong();
        windowsInsideGoAlong();
        aHiddenWindowMoves();
        theEdgesOfTheOffset();
        everyOffset();
        farOffsetsAddUp();
        refusedJustBeyondTheOffsets();
        refusedFarBeyondTheOffsets();
        refusedIfNotThere();
        refusedForTheBase();
        Check.end();
    }

    private static void offsetIsFromTheParent() {
        DamageScreen screen = new DamageScreen();
        screen.make(0, 0x55);
        screen.move(1, 4, 3);
        screen.make(1, 0x32);
        screen.move(2, 4, -1);
        Check.owners("an offset from the parent, cut by the parent", screen,
            "000000000000",
            "000000000000",
            "000000000000",
            "000011112000",
            "000011112000",
            "000011111000",
            "000011111000",
            "000011111000",
            "000000000000",
            "000000000000");
        screen.move(2, 1, 2);
        Check.due("a move replaces the offset", 2, screen.owner(5, 5));
        Check.due("visible(2) whole in the parent", 6, screen.visible(2));
    }

    private static void cleanPixelsGoAlong() {
        DamageScreen screen = new DamageScreen();
        screen.make(0, 0x33);
        Check.paintAll(screen);
        Check.due("move(1, 2, 1)", 0, screen.move(1, 2, 1));
        Check.dirt("only what the base gained is dirty", screen,
            "###.........",
            "##..........",
            "##..........",
            "............",
            "............",
            "............",
            "............",
            "............",
            "............",
            "............");
    }

    private static void whatComesFromOutsideIsDirty() {
        DamageScreen screen = new DamageScreen();
        screen.make(0, 0x34);
        screen.move(1, -2, 8);
        Check.paintAll(screen);
        screen.move(1, 1, 6);
        Check.dirt("what was off the screen is dirty", screen,
            "............",
            "............",
            "............",
            "............",
            "............",
            "............",
            ".##.........",
            ".##.........",
            "#####.......",
            "##..........");
        screen.paint(1);
        screen.paint(0);
        screen.move(1, 10, 9);
        screen.paint(0);
        screen.move(1, 8, 7);
        Check.dirt("what was beyond the far edges is dirty", screen,
            "............",
            "............",
            "............",
            "............",
            "............",
            "............",
            "............",
            "..........##",
            "........####",
            "........####");
    }

    private static void whatWasCoveredIsDirty() {
        DamageScreen screen = new DamageScreen();
        screen.make(0, 0x34);
        screen.make(0, 0x22);
        screen.move(2, 2, 1);
        Check.paintAll(screen);
        screen.move(1, 5, 4);
        Check.dirt("what another window covered is dirty", screen,
            "####........",
            "##..........",
            "##..........",
            "............",
            "............",
            ".......##...",
            ".......##...",
            "............",
            "............",
            "............");
    }

    private static void dirtyPixelsGoAlong() {
        DamageScreen screen = new DamageScreen();
        screen.make(0, 0x33);
        Check.paintAll(screen);
        screen.spoil(1, 1, 1, 0x11);
        screen.move(1, 6, 5);
        screen.paint(0);
        Check.due("dirty(7, 6)", 1, screen.dirty(7, 6));
        Check.due("paint(1) after the move", 1, screen.paint(1));
    }

    private static void windowsInsideGoAlong() {
        DamageScreen screen = new DamageScreen();
        screen.make(0, 0x44);
        screen.make(1, 0x22);
        screen.make(2, 0x11);
        screen.move(2, 1, 1);
        screen.move(3, 1, 1);
        Check.paintAll(screen);
        screen.move(1, 6, 4);
        Check.due("owner(7, 5)", 2, screen.owner(7, 5));
        Check.due("owner(8, 6)", 3, screen.owner(8, 6));
        Check.due("paint(1)", 0, screen.paint(1));
        Check.due("paint(2)", 0, screen.paint(2));
        Check.due("paint(3)", 0, screen.paint(3));
        Check.due("paint(0)", 16, screen.paint(0));
    }

    private static void aHiddenWindowMoves() {
        DamageScreen screen = new DamageScreen();
        screen.make(0, 0x22);
        Check.paintAll(screen);
        screen.show(1, false);
        screen.paint(0);
        Check.due("move of a hidden window", 0, screen.move(1, 3, 3));
        Check.due("paint(0), nothing changed", 0, screen.paint(0));
        screen.show(1, true);
        Check.due("owner(3, 3)", 1, screen.owner(3, 3));
        Check.due("paint(1), shown at the new place", 4, screen.paint(1));
    }

    private static void theEdgesOfTheOffset() {
        DamageScreen screen = new DamageScreen();
        screen.make(0, 0xCC);
        screen.make(1, 0xCC);
        Check.due("move(1, -15, -15)", 0, screen.move(1, -15, -15));
        Check.due("visible(1) outside", 0, screen.visible(1));
        Check.due("visible(2) in a window outside", 0, screen.visible(2));
        Check.due("move(2, 15, 15)", 0, screen.move(2, 15, 15));
        Check.due("visible(2) on the screen, but outside its parent", 0, screen.visible(2));
        Check.due("move(1, 15, 15)", 0, screen.move(1, 15, 15));
        Check.due("move(1, 15, -15)", 0, screen.move(1, 15, -15));
        Check.due("move(1, -11, -11)", 0, screen.move(1, -11, -11));
        Check.due("visible(1) with a corner far outside", 1, screen.visible(1));
        Check.due("move(2, 11, 11)", 0, screen.move(2, 11, 11));
        Check.due("owner(0, 0)", 2, screen.owner(0, 0));
    }

    /** Every offset, and what lies just beyond; the pixels that are seen follow from it. */
    private static void everyOffset() {
        for (int dx = -17; dx <= 17; dx++) {
            DamageScreen screen = new DamageScreen();
            screen.make(0, 0xCC);
            int seen = 120;
            for (int dy = -17; dy <= 17; dy++) {
                boolean taken = dx >= -15 && dx <= 15 && dy >= -15 && dy <= 15;
                Check.due("move(1, " + dx + ", " + dy + ")", taken ? 0 : -1, screen.move(1, dx, dy));
                seen = taken ? overlap(dx, 12) * overlap(dy, 10) : seen;
                Check.due("visible(1) after move(1, " + dx + ", " + dy + ")", seen, screen.visible(1));
            }
        }
    }

    /** How much of 12 pixels from an offset on lies on the screen. */
    private static int overlap(int offset, int screenSide) {
        return Math.max(0, Math.min(offset + 12, screenSide) - Math.max(offset, 0));
    }

    private static void farOffsetsAddUp() {
        DamageScreen screen = new DamageScreen();
        for (int parent = 0; parent < 5; parent++) {
            screen.make(parent, 0xCC);
        }
        for (int window = 1; window < 6; window++) {
            Check.due("move(" + window + ", 15, 15)", 0, screen.move(window, 15, 15));
            Check.due("visible(" + window + ") far away", 0, screen.visible(window));
        }
        Check.due("spoil of a window far away", 0, screen.spoil(5, 15, 15, 0xFF));
        for (int window = 1; window < 6; window++) {
            screen.move(window, -15, -15);
        }
        Check.due("spoil of a window far away on the other side", 0, screen.spoil(5, 15, 15, 0xFF));
        Check.due("visible(0), all far away", 120, screen.visible(0));
        for (int window = 1; window < 6; window++) {
            screen.move(window, 0, 0);
        }
        Check.due("visible(5), back again", 120, screen.visible(5));
    }

    private static void refusedJustBeyondTheOffsets() {
        int[] wrong = {-16, 16};
        for (int offset : wrong) {
            refusedOffsets(offset, 0);
            refusedOffsets(offset, 15);
            refusedOffsets(offset, -15);
            refusedOffsets(offset, 16);
            refusedOffsets(offset, -16);
        }
    }

    private static void refusedFarBeyondTheOffsets() {
        int[] wrong = {
            -17, 17, -31, 31, -32, 32, -255, 255, -256, 256, 257, 65536, -65536, 65537,
            Integer.MIN_VALUE, Integer.MIN_VALUE + 1, Integer.MAX_VALUE,
        };
        for (int offset : wrong) {
            refusedOffsets(offset, 2);
        }
    }

    private static void refusedOffsets(int wrong, int other) {
        String numbers = wrong + ", " + other;
        Check.refused("move(1, " + numbers + ")", Screens.SOME_THERE, s -> s.move(1, wrong, other));
        Check.refused("move(2) the other way, " + numbers, Screens.SOME_THERE, s -> s.move(2, other, wrong));
    }

    private static void refusedIfNotThere() {
        for (int window : Check.NO_WINDOWS) {
            Check.refused("move(" + window + ", 3, 3)", Screens.SOME_THERE, s -> s.move(window, 3, 3));
            Check.refused("move(" + window + ", 3, 3), all there", Screens.ALL_THERE, s -> s.move(window, 3, 3));
        }
        for (int window = 1; window < 6; window++) {
            int number = window;
            Check.refused("move(" + number + ", 3, 3), base alone", Screens.BASE_ALONE, s -> s.move(number, 3, 3));
        }
        Check.refused("move(4, 16, 0), nothing right", Screens.SOME_THERE, s -> s.move(4, 16, 0));
    }

    private static void refusedForTheBase() {
        Check.refused("move(0, 3, 3)", Screens.SOME_THERE, s -> s.move(0, 3, 3));
        Check.refused("move(0, 0, 0)", Screens.SOME_THERE, s -> s.move(0, 0, 0));
        Check.refused("move(0, -15, 15)", Screens.ALL_THERE, s -> s.move(0, -15, 15));
        Check.refused("move(0, 3, 3), base alone", Screens.BASE_ALONE, s -> s.move(0, 3, 3));
    }
}
