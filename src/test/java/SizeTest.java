/** Promise 5: size. */
public final class SizeTest {
    public static void main(String[] args) {
        sides();
        whatIsGainedIsDirty();
        windowsInsideAreCut();
        refusals();
        Check.end();
    }

    private static void sides() {
        DamageScreen screen = new DamageScreen();
        screen.make(0, 0x77);
        int[][] cases = {
            // size, width and height that are seen on the screen
            {0x00, 1, 1}, {0x25, 5, 2}, {0x52, 2, 5}, {0x1C, 12, 1}, {0x1D, 12, 1}, {0x0F, 12, 1},
            {0xF0, 1, 10}, {0x100, 1, 1}, {0x723, 3, 2}, {-1, 12, 10}, {-221, 3, 2},
            {Integer.MIN_VALUE, 1, 1}, {Integer.MAX_VALUE, 12, 10},
        };
        for (int[] c : cases) {
            Check.due("size(1, " + c[0] + ")", 0, screen.size(1, c[0]));
            Check.due("visible of size " + c[0], c[1] * c[2], screen.visible(1));
            Check.due("last pixel of size " + c[0], 1, screen.owner(c[1] - 1, c[2] - 1));
        }
        screen.size(1, 0xDD);
        screen.move(1, -11, -11);
        Check.due("sides above 12 are at least 12", 1, screen.visible(1));
        screen.move(1, -12, 0);
        Check.due("a width above 12 is 12", 0, screen.visible(1));
        screen.move(1, 0, -12);
        Check.due("a height above 12 is 12", 0, screen.visible(1));
    }

    private static void whatIsGainedIsDirty() {
        DamageScreen screen = new DamageScreen();
        screen.make(0, 0x33);
        screen.move(1, 2, 1);
        Check.paintAll(screen);
        screen.size(1, 0x25);
        Check.dirt("size", screen,
            "............",
            ".....##.....",
            ".....##.....",
            "..###.......",
            "............",
            "............",
            "............",
            "............",
            "............",
            "............");
        Check.due("paint(1)", 4, screen.paint(1));
        Check.due("paint(0)", 3, screen.paint(0));
    }

    private static void windowsInsideAreCut() {
        DamageScreen screen = new DamageScreen();
        screen.make(0, 0x66);
        screen.make(1, 0x33);
        screen.move(2, 2, 2);
        Check.paintAll(screen);
        screen.size(1, 0x44);
        Check.due("visible(2) cut by a smaller parent", 4, screen.visible(2));
        Check.due("paint(2) after the cut", 0, screen.paint(2));
        screen.size(1, 0x66);
        Check.due("visible(2) whole again", 9, screen.visible(2));
        Check.due("paint(2) of what came back", 5, screen.paint(2));
    }

    private static DamageScreen oneWindow() {
        DamageScreen screen = new DamageScreen();
        screen.make(0, 0x33);
        screen.paint(1);
        return screen;
    }

    private static void refusals() {
        DamageScreen screen = oneWindow();
        int[] wrong = {0, -1, 2, 5, 6, 100, Integer.MIN_VALUE, Integer.MAX_VALUE};
        for (int window : wrong) {
            Check.due("size(" + window + ", 85)", -1, screen.size(window, 85));
        }
        Check.sameState("a refused size", oneWindow(), screen);
    }
}
