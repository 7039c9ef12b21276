/** Promise 5: size. */
public final class SizeTest {
    public static void main(String[] args) {
        sidesOfEverySize();
        aSideOfZeroIsOne();
        aSideAboveTwelveIsTwelve();
        bitsBeyondTheLowestEight();
        theRestIsKept();
        whatIsGainedIsDirty();
        windowsInsideAreCut();
        refusedIfNotThere();
        refusedForTheBase();
        Check.end();
    }

    private static void sidesOfEverySize() {
        for (int size = 0; size < 256; size++) {
            Sides.check("size(1, " + size + ")", size, sized(size));
        }
    }

    private static void aSideOfZeroIsOne() {
        Check.due("visible of 0 by 0", 1, sized(0x00).visible(1));
        Check.due("visible of 0 by 5", 5, sized(0x50).visible(1));
        Check.due("visible of 5 by 0", 5, sized(0x05).visible(1));
    }

    private static void aSideAboveTwelveIsTwelve() {
        for (int side = 12; side < 16; side++) {
            DamageScreen wide = sized(0x10 + side);
            wide.move(1, -11, 0);
            Check.due("the last pixel of a width of " + side, 1, wide.visible(1));
            wide.move(1, -12, 0);
            Check.due("beyond a width of " + side, 0, wide.visible(1));
            DamageScreen high = sized(side * 16 + 1);
            high.move(1, 0, -11);
            Check.due("the last pixel of a height of " + side, 1, high.visible(1));
            high.move(1, 0, -12);
            Check.due("beyond a height of " + side, 0, high.visible(1));
        }
    }

    private static void bitsBeyondTheLowestEight() {
        for (int size : Sides.BEYOND_EIGHT_BITS) {
            Sides.check("size(1, " + size + ")", size, sized(size));
        }
    }

    private static DamageScreen sized(int size) {
        DamageScreen screen = new DamageScreen();
        screen.make(0, 0x77);
        Check.due("size(1, " + size + ")", 0, screen.size(1, size));
        return screen;
    }

    private static void theRestIsKept() {
        DamageScreen screen = new DamageScreen();
        screen.make(0, 0x33);
        screen.make(0, 0x33);
        screen.move(1, 1, 1);
        screen.size(1, 0x44);
        Check.due("owner(1, 1), 1 is still under 2", 2, screen.owner(1, 1));
        Check.due("owner(4, 4), 1 is still at (1, 1)", 1, screen.owner(4, 4));
        Check.due("visible(1)", 12, screen.visible(1));
        screen.show(2, false);
        Check.due("size of a hidden window", 0, screen.size(2, 0x66));
        Check.due("visible(2), still hidden", 0, screen.visible(2));
        screen.show(2, true);
        Check.due("visible(2), shown", 36, screen.visible(2));
    }

    private static void whatIsGainedIsDirty() {
        DamageScreen screen = new DamageScreen();
        screen.make(0, 0x33);
        screen.move(1, 2, 1);
        Check.paintAll(screen);
        screen.size(1, 0x25);
        Check.dirt("size", screen,
            "............",
            ".....##.....",
            ".....##.....",
            "..###.......",
            "............",
            "............",
            "............",
            "............",
            "............",
            "............");
        Check.due("paint(1)", 4, screen.paint(1));
        Check.due("paint(0)", 3, screen.paint(0));
    }

    private static void windowsInsideAreCut() {
        DamageScreen screen = new DamageScreen();
        screen.make(0, 0x66);
        screen.make(1, 0x33);
        screen.move(2, 2, 2);
        Check.paintAll(screen);
        screen.size(1, 0x44);
        Check.due("visible(2) cut by a smaller parent", 4, screen.visible(2));
        Check.due("paint(2) after the cut", 0, screen.paint(2));
        screen.size(1, 0x66);
        Check.due("visible(2) whole again", 9, screen.visible(2));
        Check.due("paint(2) of what came back", 5, screen.paint(2));
    }

    private static void refusedIfNotThere() {
        for (int window : Check.NO_WINDOWS) {
            Check.refused("size(" + window + ", 85)", Screens.SOME_THERE, s -> s.size(window, 85));
            Check.refused("size(" + window + ", 85), all there", Screens.ALL_THERE, s -> s.size(window, 85));
        }
        for (int window = 1; window < 6; window++) {
            int number = window;
            Check.refused("size(" + number + ", 85), base alone", Screens.BASE_ALONE, s -> s.size(number, 85));
        }
    }

    private static void refusedForTheBase() {
        int[] sizes = {0, 0x11, 0x55, 0xAC, 0xFF, -1};
        for (int size : sizes) {
            Check.refused("size(0, " + size + ")", Screens.SOME_THERE, s -> s.size(0, size));
            Check.refused("size(0, " + size + "), base alone", Screens.BASE_ALONE, s -> s.size(0, size));
        }
    }
}
