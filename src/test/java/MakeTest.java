/** Promise 2: make. */
public final class MakeTest {
    public static void main(String[] args) {
        leastFreeNumber();
        leastFreeNumberAfterDestroys();
        numbersOfWindowsThatWentWithTheirParent();
        sidesOfEverySize();
        aSideOfZeroIsOne();
        aSideAboveTwelveIsTwelve();
        bitsBeyondTheLowestEight();
        placeAndStack();
        onTopAlsoAfterRaises();
        aFreedNumberBeginsAnew();
        onlyTheNewWindowIsDirty();
        hiddenAndCoveredParentsAreTaken();
        refusedIfTheParentIsNotThere();
        refusedIfAllWindowsAreThere();
        Check.end();
    }

    private static void leastFreeNumber() {
        DamageScreen screen = new DamageScreen();
        for (int window = 1; window < 6; window++) {
            Check.due("make number " + window, window, screen.make(0, 0x11));
        }
    }

    /** Every set of windows that are destroyed is filled up from the least number on. */
    private static void leastFreeNumberAfterDestroys() {
        for (int freed = 0; freed < 64; freed += 2) {
            DamageScreen screen = new DamageScreen();
            for (int window = 1; window < 6; window++) {
                screen.make(0, 0x11);
            }
            for (int window = 5; window > 0; window--) {
                if ((freed >> window & 1) == 1) {
                    screen.destroy(window);
                }
            }
            for (int window = 1; window < 6; window++) {
                if ((freed >> window & 1) == 1) {
                    Check.due("make with " + Integer.toBinaryString(freed) + " free", window, screen.make(0, 0x11));
                }
            }
            Check.due("make with none free", -1, screen.make(0, 0x11));
        }
    }

    private static void numbersOfWindowsThatWentWithTheirParent() {
        DamageScreen screen = new DamageScreen();
        for (int parent = 0; parent < 5; parent++) {
            screen.make(parent, 0x11);
        }
        screen.destroy(2);
        for (int window = 2; window < 6; window++) {
            Check.due("make after destroy(2)", window, screen.make(window == 3 ? 2 : 1, 0x11));
        }
        Check.due("destroy(2), with 3 alone in it", 2, screen.destroy(2));
    }

    private static void sidesOfEverySize() {
        for (int size = 0; size < 256; size++) {
            Sides.check("make(0, " + size + ")", size, made(size));
        }
    }

    private static void aSideOfZeroIsOne() {
        Check.due("visible of 0 by 0", 1, made(0x00).visible(1));
        Check.due("visible of 0 by 5", 5, made(0x50).visible(1));
        Check.due("visible of 5 by 0", 5, made(0x05).visible(1));
    }

    private static void aSideAboveTwelveIsTwelve() {
        for (int side = 12; side < 16; side++) {
            DamageScreen wide = made(0x10 + side);
            Check.due("visible of a width of " + side, 12, wide.visible(1));
            wide.move(1, -11, 0);
            Check.due("the last pixel of a width of " + side, 1, wide.visible(1));
            wide.move(1, -12, 0);
            Check.due("beyond a width of " + side, 0, wide.visible(1));
            DamageScreen high = made(side * 16 + 1);
            Check.due("visible of a height of " + side, 10, high.visible(1));
            high.move(1, 0, -11);
            Check.due("the last pixel of a height of " + side, 1, high.visible(1));
            high.move(1, 0, -12);
            Check.due("beyond a height of " + side, 0, high.visible(1));
        }
    }

    private static void bitsBeyondTheLowestEight() {
        for (int size : Sides.BEYOND_EIGHT_BITS) {
            Sides.check("make(0, " + size + ")", size, made(size));
        }
    }

    private static DamageScreen made(int size) {
        DamageScreen screen = new DamageScreen();
        Check.due("make(0, " + size + ")", 1, screen.make(0, size));
        return screen;
    }

    private static void placeAndStack() {
        DamageScreen screen = new DamageScreen();
        screen.make(0, 0x55);
        screen.move(1, 2, 1);
        screen.make(1, 0x33);
        screen.make(1, 0x22);
        screen.make(0, 0x24);
        screen.make(4, 0x11);
        Check.owners("a new window is at its parent's corner and on top", screen,
            "544400000000",
            "444421100000",
            "003321100000",
            "002221100000",
            "001111100000",
            "001111100000",
            "000000000000",
            "000000000000",
            "000000000000",
            "000000000000");
    }

    private static void onTopAlsoAfterRaises() {
        DamageScreen screen = new DamageScreen();
        screen.make(0, 0x44);
        screen.make(0, 0x33);
        screen.raise(1, true);
        screen.raise(2, true);
        screen.raise(1, true);
        screen.make(0, 0x22);
        Check.due("a new window over raised ones", 3, screen.owner(0, 0));
        screen.make(1, 0x11);
        Check.due("a new window in a lower one is under the upper one", 3, screen.owner(0, 0));
        Check.due("visible(4)", 0, screen.visible(4));
        screen.raise(3, false);
        Check.due("a new window in the upper one", 4, screen.owner(0, 0));
        screen.make(0, 0x11);
        Check.due("a new window over the one around it", 5, screen.owner(0, 0));
    }

    private static void aFreedNumberBeginsAnew() {
        DamageScreen screen = new DamageScreen();
        screen.make(0, 0x22);
        screen.make(0, 0x22);
        screen.move(1, 5, 5);
        screen.show(1, false);
        screen.raise(1, false);
        screen.destroy(1);
        screen.make(0, 0x11);
        Check.due("a freed number is shown, on top, at (0, 0)", 1, screen.owner(0, 0));
        Check.due("a freed number has its new size", 1, screen.visible(1));
        Check.due("a freed number is dirty", 1, screen.paint(1));
    }

    private static void onlyTheNewWindowIsDirty() {
        DamageScreen screen = new DamageScreen();
        screen.paint(0);
        screen.make(0, 0x23);
        Check.dirt("make", screen,
            "###.........",
            "###.........",
            "............",
            "............",
            "............",
            "............",
            "............",
            "............",
            "............",
            "............");
    }

    private static void refusedIfTheParentIsNotThere() {
        for (int parent : Check.NO_WINDOWS) {
            Check.refused("make(" + parent + ", 85)", Screens.BASE_ALONE, s -> s.make(parent, 85));
            Check.refused("make(" + parent + ", 85)", Screens.SOME_THERE, s -> s.make(parent, 85));
        }
        for (int parent = 1; parent < 6; parent++) {
            int number = parent;
            Check.refused("make(" + number + ", 85), base alone", Screens.BASE_ALONE, s -> s.make(number, 85));
        }
        Check.refused("make(4, 85), 4 destroyed", Screens.SOME_THERE, s -> s.make(4, 85));
        Check.refused("make(5, 85), 5 destroyed with 4", Screens.SOME_THERE, s -> s.make(5, 85));
    }

    private static void refusedIfAllWindowsAreThere() {
        for (int parent = 0; parent < 6; parent++) {
            int number = parent;
            Check.refused("make(" + number + ", 85), all there", Screens.ALL_THERE, s -> s.make(number, 85));
        }
        Check.refused("make(6, 85), all there", Screens.ALL_THERE, s -> s.make(6, 85));
        Check.refused("make(-1, -1), all there", Screens.ALL_THERE, s -> s.make(-1, -1));
        DamageScreen screen = Screens.full();
        screen.make(0, 85);
        screen.destroy(3);
        Check.due("make after a refusal and a destroy", 3, screen.make(4, 85));
    }

    private static void hiddenAndCoveredParentsAreTaken() {
        DamageScreen screen = Screens.hidden();
        Check.due("make in a hidden window", 4, screen.make(1, 0x33));
        Check.due("make in a window of a hidden one", 5, screen.make(2, 0x33));
        Check.due("visible(4)", 0, screen.visible(4));
        Check.due("visible(5)", 0, screen.visible(5));
    }
}
