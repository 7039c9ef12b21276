/** Promise 8: paint. */
public final class PaintTest {
    public static void main(String[] args) {
        onlyOwnPixels();
        onlyDirtyOnesCount();
        nothingOwned();
        refusals();
        Check.end();
    }

    private static void onlyOwnPixels() {
        DamageScreen screen = new DamageScreen();
        screen.make(0, 0x34);
        screen.move(1, 3, 2);
        screen.make(1, 0x12);
        Check.due("paint(1)", 10, screen.paint(1));
        Check.dirt("paint(1) leaves the others alone", screen,
            "############",
            "############",
            "#####..#####",
            "###....#####",
            "###....#####",
            "############",
            "############",
            "############",
            "############",
            "############");
        Check.due("paint(0)", 108, screen.paint(0));
        Check.due("dirty(3, 2) of window 2", 1, screen.dirty(3, 2));
        Check.due("paint(2)", 2, screen.paint(2));
        Check.due("dirty(3, 2) painted", 0, screen.dirty(3, 2));
    }

    private static void onlyDirtyOnesCount() {
        DamageScreen screen = new DamageScreen();
        Check.due("paint(0)", 120, screen.paint(0));
        Check.due("paint(0) again", 0, screen.paint(0));
        screen.spoil(0, 4, 4, 0x23);
        Check.due("paint(0) after spoil", 6, screen.paint(0));
        Check.due("dirty(4, 4)", 0, screen.dirty(4, 4));
    }

    private static void nothingOwned() {
        DamageScreen screen = new DamageScreen();
        screen.make(0, 0xAC);
        Check.due("paint(0) of a covered base", 0, screen.paint(0));
        screen.show(1, false);
        Check.due("paint(1) of a hidden window", 0, screen.paint(1));
        Check.due("paint(0) after all", 120, screen.paint(0));
    }

    private static DamageScreen oneWindow() {
        DamageScreen screen = new DamageScreen();
        screen.make(0, 0x33);
        return screen;
    }

    private static void refusals() {
        DamageScreen screen = oneWindow();
        int[] wrong = {-1, 2, 5, 6, 100, Integer.MIN_VALUE, Integer.MAX_VALUE};
        for (int window : wrong) {
            Check.due("paint(" + window + ")", -1, screen.paint(window));
        }
        Check.sameState("a refused paint", oneWindow(), screen);
    }
}
