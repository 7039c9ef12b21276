/** Promise 7: show. */
public final class ShowTest {
    public static void main(String[] args) {
        hideAndShow();
        windowsInsideVanish();
        placeAndOrderAreKept();
        showTwice();
        refusals();
        Check.end();
    }

    private static void hideAndShow() {
        DamageScreen screen = new DamageScreen();
        screen.make(0, 0x23);
        Check.paintAll(screen);
        Check.due("show(1, false)", 0, screen.show(1, false));
        Check.due("visible(1) hidden", 0, screen.visible(1));
        Check.due("owner(0, 0) hidden", 0, screen.owner(0, 0));
        Check.due("paint(1) hidden", 0, screen.paint(1));
        Check.due("paint(0) of what it gained", 6, screen.paint(0));
        Check.due("show(1, true)", 0, screen.show(1, true));
        Check.due("visible(1) shown", 6, screen.visible(1));
        Check.due("paint(1) shown", 6, screen.paint(1));
        Check.due("paint(0)", 0, screen.paint(0));
    }

    private static void windowsInsideVanish() {
        DamageScreen screen = new DamageScreen();
        screen.make(0, 0x66);
        screen.make(1, 0x44);
        screen.make(2, 0x22);
        screen.show(3, false);
        screen.show(1, false);
        Check.due("visible(2) in a hidden window", 0, screen.visible(2));
        Check.due("show(3, true) in a hidden window", 0, screen.show(3, true));
        Check.due("visible(3) in a hidden window", 0, screen.visible(3));
        Check.due("make in a hidden window", 4, screen.make(1, 0x11));
        Check.due("visible(4) in a hidden window", 0, screen.visible(4));
        Check.due("visible(0)", 120, screen.visible(0));
        screen.show(1, true);
        Check.due("visible(1)", 20, screen.visible(1));
        Check.due("visible(2)", 12, screen.visible(2));
        Check.due("visible(3)", 3, screen.visible(3));
        Check.due("visible(4)", 1, screen.visible(4));
    }

    private static void placeAndOrderAreKept() {
        DamageScreen screen = new DamageScreen();
        screen.make(0, 0x44);
        screen.make(0, 0x44);
        screen.move(1, 1, 1);
        screen.show(1, false);
        screen.show(1, true);
        Check.due("1, shown again, is under 2", 2, screen.owner(1, 1));
        Check.due("1, shown again, is where it was", 1, screen.owner(4, 4));
        Check.due("visible(1)", 7, screen.visible(1));
        screen.show(1, false);
        screen.raise(1, true);
        screen.size(1, 0x22);
        Check.due("visible(1), raised and sized while hidden", 0, screen.visible(1));
        screen.show(1, true);
        Check.due("visible(1), shown after that", 4, screen.visible(1));
    }

    private static DamageScreen twoWindows() {
        DamageScreen screen = new DamageScreen();
        screen.make(0, 0x44);
        screen.make(0, 0x44);
        screen.paint(2);
        return screen;
    }

    private static void showTwice() {
        DamageScreen screen = twoWindows();
        Check.due("show(2, true) of a shown one", 0, screen.show(2, true));
        Check.sameState("a show of a shown window", twoWindows(), screen);
        DamageScreen hiddenOnce = twoWindows();
        DamageScreen hiddenTwice = twoWindows();
        hiddenOnce.show(2, false);
        hiddenTwice.show(2, false);
        Check.due("show(2, false) of a hidden one", 0, hiddenTwice.show(2, false));
        Check.sameState("a hiding of a hidden window", hiddenOnce, hiddenTwice);
    }

    private static void refusals() {
        DamageScreen screen = twoWindows();
        int[] wrong = {0, -1, 3, 5, 6, 100, Integer.MIN_VALUE, Integer.MAX_VALUE};
        for (int window : wrong) {
            Check.due("show(" + window + ", true)", -1, screen.show(window, true));
            Check.due("show(" + window + ", false)", -1, screen.show(window, false));
        }
        Check.sameState("a refused show", twoWindows(), screen);
    }
}
