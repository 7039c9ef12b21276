/** Promise 9: spoil. */
public final class SpoilTest {
    public static void main(String[] args) {
        measuredFromTheCorner();
        onlyOwnPixels();
        onlyCleanOnesCount();
        beyondTheScreen();
        beyondTheWindow();
        emptyRectangles();
        greatestRectangle();
        everyRectangle();
        nothingOwned();
        refusedIfNotThere();
        refusedJustBeyondThePlaces();
        refusedFarBeyondThePlaces();
        refusedBeyondTheSides();
        Check.end();
    }

    private static void measuredFromTheCorner() {
        DamageScreen screen = new DamageScreen();
        screen.make(0, 0x66);
        screen.move(1, 2, 1);
        screen.make(1, 0x44);
        screen.move(2, 1, 1);
        Check.paintAll(screen);
        Check.due("spoil(2, 1, 0, 2 wide 3 high)", 6, screen.spoil(2, 1, 0, 0x23));
        Check.dirt("spoil", screen,
            "............",
            "............",
            "....##......",
            "....##......",
            "....##......",
            "............",
            "............",
            "............",
            "............",
            "............");
    }

    private static void onlyOwnPixels() {
        DamageScreen screen = new DamageScreen();
        screen.make(0, 0x44);
        screen.make(1, 0x22);
        screen.move(1, 2, 2);
        screen.move(2, 1, 1);
        screen.make(0, 0x11);
        screen.move(3, 2, 2);
        Check.paintAll(screen);
        Check.due("spoil(1, 0, 0, 255)", 11, screen.spoil(1, 0, 0, 255));
        Check.dirt("spoil of what the window owns", screen,
            "............",
            "............",
            "...###......",
            "..#..#......",
            "..#..#......",
            "..####......",
            "............",
            "............",
            "............",
            "............");
    }

    private static void onlyCleanOnesCount() {
        DamageScreen screen = new DamageScreen();
        Check.due("spoil of a dirty screen", 0, screen.spoil(0, 0, 0, 255));
        screen.paint(0);
        Check.due("spoil(0, 1, 1, 3 by 3)", 9, screen.spoil(0, 1, 1, 0x33));
        Check.due("spoil(0, 1, 1, 3 by 3) again", 0, screen.spoil(0, 1, 1, 0x33));
        Check.due("spoil(0, 2, 2, 3 by 3)", 5, screen.spoil(0, 2, 2, 0x33));
        Check.due("paint(0) after it", 14, screen.paint(0));
        Check.due("spoil of the whole screen", 120, screen.spoil(0, 0, 0, 255));
    }

    private static void beyondTheScreen() {
        DamageScreen screen = new DamageScreen();
        screen.make(0, 0x55);
        screen.move(1, -3, -2);
        Check.paintAll(screen);
        Check.due("spoil left and above of the screen", 0, screen.spoil(1, 0, 0, 0x32));
        Check.due("spoil over the near edges", 2, screen.spoil(1, 2, 1, 0x23));
        Check.due("spoil(0, 15, 15, 255)", 0, screen.spoil(0, 15, 15, 255));
        Check.due("spoil over the far edges", 6, screen.spoil(0, 10, 7, 255));
        Check.due("dirty(11, 9)", 1, screen.dirty(11, 9));
        Check.due("dirty(9, 9)", 0, screen.dirty(9, 9));
        Check.due("dirty(11, 6)", 0, screen.dirty(11, 6));
        screen.make(1, 0x55);
        screen.move(1, 10, 8);
        screen.move(2, -15, -15);
        Check.due("spoil of a window that owns nothing", 0, screen.spoil(2, 5, 7, 255));
    }

    private static DamageScreen cleanBase() {
        DamageScreen screen = new DamageScreen();
        screen.paint(0);
        return screen;
    }

    private static void emptyRectangles() {
        for (int other = 0; other < 16; other++) {
            int side = other;
            Check.answersAndKeeps("spoil of width 0, height " + side, 0, SpoilTest::cleanBase,
                s -> s.spoil(0, 3, 3, side));
            Check.answersAndKeeps("spoil of height 0, width " + side, 0, SpoilTest::cleanBase,
                s -> s.spoil(0, 3, 3, 16 * side));
        }
    }

    private static void greatestRectangle() {
        Check.due("spoil(0, 0, 0, 15 by 15)", 120, cleanBase().spoil(0, 0, 0, 0xFF));
        Check.due("spoil(0, 15, 0, 15 by 15)", 0, cleanBase().spoil(0, 15, 0, 0xFF));
        Check.due("spoil(0, 0, 15, 15 by 15)", 0, cleanBase().spoil(0, 0, 15, 0xFF));
        Check.due("spoil(0, 0, 0, 15 by 1)", 12, cleanBase().spoil(0, 0, 0, 0xF1));
        Check.due("spoil(0, 0, 0, 1 by 15)", 10, cleanBase().spoil(0, 0, 0, 0x1F));
        DamageScreen far = new DamageScreen();
        far.make(0, 0x1C);
        far.move(1, -11, 0);
        Check.paintAll(far);
        Check.due("spoil of 11 from a corner at -11", 0, far.spoil(1, 0, 0, 0xB1));
        Check.due("spoil of 15 from a corner at -11", 1, far.spoil(1, 0, 0, 0xF1));
        Check.due("spoil at 15 from a corner at -11, another's pixels", 0, far.spoil(1, 15, 0, 0xF1));
        Check.due("dirty(0, 0)", 1, far.dirty(0, 0));
        Check.due("dirty(4, 0)", 0, far.dirty(4, 0));
    }

    /** Every x, y and wide, and those just beyond, for a window that is partly outside the screen. */
    private static void everyRectangle() {
        for (int x = -1; x <= 16; x++) {
            for (int y = -1; y <= 16; y++) {
                everyRectangleFrom(x, y, -1, 127);
                everyRectangleFrom(x, y, 128, 256);
            }
        }
    }

    private static void everyRectangleFrom(int x, int y, int firstWide, int lastWide) {
        DamageScreen screen = new DamageScreen();
        screen.make(0, 0x67);
        screen.move(1, -2, 5);
        Check.paintAll(screen);
        for (int wide = firstWide; wide <= lastWide; wide++) {
            boolean taken = x >= 0 && x <= 15 && y >= 0 && y <= 15 && wide >= 0 && wide <= 255;
            // It is 7 by 6, and of these columns 2 to 6 and rows 0 to 4 are on the screen.
            int due = taken ? overlap(x, wide / 16, 2, 7) * overlap(y, wide % 16, 0, 5) : -1;
            String call = "spoil(1, " + x + ", " + y + ", " + wide + ")";
            Check.due(call, due, screen.spoil(1, x, y, wide));
            Check.due("paint(1) after " + call, Math.max(due, 0), screen.paint(1));
        }
        Check.due("paint(0) after all of " + x + ", " + y, 0, screen.paint(0));
    }

    private static int overlap(int from, int length, int first, int end) {
        return Math.max(0, Math.min(from + length, end) - Math.max(from, first));
    }

    private static void beyondTheWindow() {
        DamageScreen screen = new DamageScreen();
        screen.make(0, 0x33);
        screen.move(1, 4, 3);
        Check.paintAll(screen);
        Check.due("spoil that leaves the window", 4, screen.spoil(1, 1, 1, 0x55));
        Check.due("spoil just beside the window", 0, screen.spoil(1, 3, 0, 0x33));
        Check.due("spoil just below the window", 0, screen.spoil(1, 0, 3, 0x33));
        Check.due("paint(0), not spoiled", 0, screen.paint(0));
        Check.due("paint(1)", 4, screen.paint(1));
    }

    private static void nothingOwned() {
        Check.answersAndKeeps("spoil(1), hidden", 0, Screens::hidden, s -> s.spoil(1, 0, 0, 0xFF));
        Check.answersAndKeeps("spoil(2), in a hidden one", 0, Screens::hidden, s -> s.spoil(2, 0, 0, 0xFF));
        DamageScreen covered = new DamageScreen();
        covered.make(0, 0xFF);
        Check.paintAll(covered);
        Check.due("spoil(0), covered", 0, covered.spoil(0, 0, 0, 0xFF));
        Check.due("paint(1), not spoiled", 0, covered.paint(1));
        covered.move(1, 12, 0);
        Check.paintAll(covered);
        Check.due("spoil(1), outside", 0, covered.spoil(1, 0, 0, 0xFF));
        Check.due("paint(0), not spoiled", 0, covered.paint(0));
    }

    private static void refusedIfNotThere() {
        for (int window : Check.NO_WINDOWS) {
            Check.refused("spoil(" + window + ", 0, 0, 255)", Screens.SOME_THERE, s -> s.spoil(window, 0, 0, 255));
            Check.refused("spoil(" + window + ", 0, 0, 255), all there", Screens.ALL_THERE,
                s -> s.spoil(window, 0, 0, 255));
        }
        for (int window = 1; window < 6; window++) {
            int number = window;
            Check.refused("spoil(" + number + ", 0, 0, 255), base alone", Screens.BASE_ALONE,
                s -> s.spoil(number, 0, 0, 255));
        }
        Check.refused("spoil(4, 0, 0, 0), not there and empty", Screens.SOME_THERE, s -> s.spoil(4, 0, 0, 0));
    }

    private static void refusedJustBeyondThePlaces() {
        int[] wrong = {-1, 16};
        for (int place : wrong) {
            refusedPlaces(place, 0, 0xFF);
            refusedPlaces(place, 15, 0xFF);
            refusedPlaces(place, 0, 0);
            refusedPlaces(place, 16, 0x11);
        }
    }

    private static void refusedFarBeyondThePlaces() {
        int[] wrong = {
            -2, -15, -16, 17, 31, 32, 255, 256, 65536, Integer.MIN_VALUE, Integer.MIN_VALUE + 1, Integer.MAX_VALUE,
        };
        for (int place : wrong) {
            refusedPlaces(place, 0, 0xFF);
        }
    }

    private static void refusedPlaces(int wrong, int other, int wide) {
        String numbers = wrong + ", " + other + ", " + wide;
        Check.refused("spoil(1, " + numbers + ")", Screens.SOME_THERE, s -> s.spoil(1, wrong, other, wide));
        Check.refused("spoil(1) the other way, " + numbers, Screens.SOME_THERE, s -> s.spoil(1, other, wrong, wide));
        Check.refused("spoil(0, " + numbers + ")", Screens.SOME_THERE, s -> s.spoil(0, wrong, other, wide));
        Check.refused("spoil(0) the other way, " + numbers, Screens.SOME_THERE, s -> s.spoil(0, other, wrong, wide));
    }

    private static void refusedBeyondTheSides() {
        int[] wrong = {
            256, 257, 271, 272, 273, 511, 512, 4096, 4097 + 16, 65536, 65536 + 0x22, Integer.MAX_VALUE,
            -1, -15, -16, -17, -222, -240, -255, -256, -65536 + 0x22, Integer.MIN_VALUE, Integer.MIN_VALUE + 0x22,
        };
        for (int wide : wrong) {
            Check.refused("spoil(1, 0, 0, " + wide + ")", Screens.SOME_THERE, s -> s.spoil(1, 0, 0, wide));
            Check.refused("spoil(0, 0, 0, " + wide + ")", Screens.SOME_THERE, s -> s.spoil(0, 0, 0, wide));
            Check.refused("spoil(2, 0, 0, " + wide + ")", Screens.SOME_THERE, s -> s.spoil(2, 0, 0, wide));
        }
    }
}
