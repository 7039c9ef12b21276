/** Promise 9: spoil. */
public final class SpoilTest {
    public static void main(String[] args) {
        measuredFromTheCorner();
        onlyOwnPixels();
        onlyCleanOnesCount();
        beyondTheScreen();
        emptyRectangles();
        refusals();
        Check.end();
    }

    private static void measuredFromTheCorner() {
        DamageScreen screen = new DamageScreen();
        screen.make(0, 0x66);
        screen.move(1, 2, 1);
        screen.make(1, 0x44);
        screen.move(2, 1, 1);
        Check.paintAll(screen);
        Check.due("spoil(2, 1, 0, 2 wide 3 high)", 6, screen.spoil(2, 1, 0, 0x23));
        Check.dirt("spoil", screen,
            "............",
            "............",
            "....##......",
            "....##......",
            "....##......",
            "............",
            "............",
            "............",
            "............",
            "............");
    }

    private static void onlyOwnPixels() {
        DamageScreen screen = new DamageScreen();
        screen.make(0, 0x44);
        screen.make(1, 0x22);
        screen.move(1, 2, 2);
        screen.move(2, 1, 1);
        screen.make(0, 0x11);
        screen.move(3, 2, 2);
        Check.paintAll(screen);
        Check.due("spoil(1, 0, 0, 255)", 11, screen.spoil(1, 0, 0, 255));
        Check.dirt("spoil of what the window owns", screen,
            "............",
            "............",
            "...###......",
            "..#..#......",
            "..#..#......",
            "..####......",
            "............",
            "............",
            "............",
            "............");
    }

    private static void onlyCleanOnesCount() {
        DamageScreen screen = new DamageScreen();
        Check.due("spoil of a dirty screen", 0, screen.spoil(0, 0, 0, 255));
        screen.paint(0);
        Check.due("spoil(0, 1, 1, 3 by 3)", 9, screen.spoil(0, 1, 1, 0x33));
        Check.due("spoil(0, 1, 1, 3 by 3) again", 0, screen.spoil(0, 1, 1, 0x33));
        Check.due("spoil(0, 2, 2, 3 by 3)", 5, screen.spoil(0, 2, 2, 0x33));
        Check.due("paint(0) after it", 14, screen.paint(0));
        Check.due("spoil of the whole screen", 120, screen.spoil(0, 0, 0, 255));
    }

    private static void beyondTheScreen() {
        DamageScreen screen = new DamageScreen();
        screen.make(0, 0x55);
        screen.move(1, -3, -2);
        Check.paintAll(screen);
        Check.due("spoil left and above of the screen", 0, screen.spoil(1, 0, 0, 0x32));
        Check.due("spoil over the near edges", 2, screen.spoil(1, 2, 1, 0x23));
        Check.due("spoil(0, 15, 15, 255)", 0, screen.spoil(0, 15, 15, 255));
        Check.due("spoil over the far edges", 6, screen.spoil(0, 10, 7, 255));
        Check.due("dirty(11, 9)", 1, screen.dirty(11, 9));
        Check.due("dirty(9, 9)", 0, screen.dirty(9, 9));
        Check.due("dirty(11, 6)", 0, screen.dirty(11, 6));
        screen.make(1, 0x55);
        screen.move(1, 10, 8);
        screen.move(2, -15, -15);
        Check.due("spoil of a window that owns nothing", 0, screen.spoil(2, 5, 7, 255));
    }

    private static DamageScreen cleanBase() {
        DamageScreen screen = new DamageScreen();
        screen.paint(0);
        return screen;
    }

    private static void emptyRectangles() {
        DamageScreen screen = cleanBase();
        Check.due("spoil of width 0", 0, screen.spoil(0, 3, 3, 0x05));
        Check.due("spoil of height 0", 0, screen.spoil(0, 3, 3, 0x50));
        Check.due("spoil of nothing", 0, screen.spoil(0, 0, 0, 0));
        Check.sameState("an empty spoil", cleanBase(), screen);
    }

    private static DamageScreen cleanWindow() {
        DamageScreen screen = new DamageScreen();
        screen.make(0, 0x33);
        Check.paintAll(screen);
        return screen;
    }

    private static void refusals() {
        DamageScreen screen = cleanWindow();
        int[] wrongWindows = {-1, 2, 5, 6, 100, Integer.MIN_VALUE, Integer.MAX_VALUE};
        for (int window : wrongWindows) {
            Check.due("spoil(" + window + ", 0, 0, 255)", -1, screen.spoil(window, 0, 0, 255));
        }
        int[] wrongPlaces = {-1, 16, 17, 256, Integer.MIN_VALUE, Integer.MAX_VALUE};
        for (int place : wrongPlaces) {
            Check.due("spoil(1, " + place + ", 0, 255)", -1, screen.spoil(1, place, 0, 255));
            Check.due("spoil(1, 0, " + place + ", 255)", -1, screen.spoil(1, 0, place, 255));
        }
        int[] wrongWides = {-1, -15, -16, -17, -240, -256, 256, 257, 271, 272, 4096, Integer.MIN_VALUE, Integer.MAX_VALUE};
        for (int wide : wrongWides) {
            Check.due("spoil(1, 0, 0, " + wide + ")", -1, screen.spoil(1, 0, 0, wide));
        }
        Check.sameState("a refused spoil", cleanWindow(), screen);
    }
}
