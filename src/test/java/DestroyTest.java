/** Promise 3: destroy. */
public final class DestroyTest {
    public static void main(String[] args) {
        oneWindow();
        windowsInWindows();
        aParentWithAGreaterNumber();
        theOthersKeepTheirOrder();
        refusals();
        Check.end();
    }

    private static void oneWindow() {
        DamageScreen screen = new DamageScreen();
        screen.make(0, 0x22);
        Check.paintAll(screen);
        Check.due("destroy(1)", 1, screen.destroy(1));
        Check.due("visible(1) after destroy", -1, screen.visible(1));
        Check.due("visible(0) after destroy", 120, screen.visible(0));
        Check.due("dirty(1, 1), which 1 owned", 1, screen.dirty(1, 1));
        Check.due("dirty(2, 2), which the base owned", 0, screen.dirty(2, 2));
        Check.due("paint(0) after destroy", 4, screen.paint(0));
        Check.due("destroy(1) again", -1, screen.destroy(1));
    }

    private static void windowsInWindows() {
        DamageScreen screen = new DamageScreen();
        screen.make(0, 0x88);
        screen.make(1, 0x44);
        screen.make(2, 0x22);
        screen.make(1, 0x11);
        screen.make(0, 0x11);
        screen.show(3, false);
        Check.due("destroy(2) with a hidden one in it", 2, screen.destroy(2));
        Check.due("visible(3)", -1, screen.visible(3));
        Check.due("visible(4), under 5", 0, screen.visible(4));
        Check.due("destroy(1) with 4 in it", 2, screen.destroy(1));
        Check.due("visible(4) after destroy(1)", -1, screen.visible(4));
        Check.due("visible(5) is left", 1, screen.visible(5));
    }

    private static void aParentWithAGreaterNumber() {
        DamageScreen screen = new DamageScreen();
        for (int window = 1; window < 6; window++) {
            screen.make(0, 0xCC);
        }
        // Each number is freed and made again in the next one: 1 in 2 in 3 in 4 in 5.
        for (int window = 4; window >= 1; window--) {
            screen.destroy(window);
            Check.due("make in " + (window + 1), window, screen.make(window + 1, 0xCC));
        }
        Check.due("owner(0, 0) of the chain", 1, screen.owner(0, 0));
        screen.move(5, 1, 0);
        screen.move(4, 1, 0);
        screen.move(3, 1, 0);
        screen.move(2, 1, 0);
        screen.move(1, 1, 0);
        Check.due("visible(1) of the chain", 70, screen.visible(1));
        Check.due("owner(4, 0) of the chain", 2, screen.owner(4, 0));
        Check.due("owner(5, 0) of the chain", 1, screen.owner(5, 0));
        Check.due("destroy(5) with the chain in it", 5, screen.destroy(5));
        for (int window = 1; window < 6; window++) {
            Check.due("visible(" + window + ")", -1, screen.visible(window));
        }
        Check.due("make after the chain", 1, screen.make(0, 0x11));
    }

    private static void theOthersKeepTheirOrder() {
        DamageScreen screen = new DamageScreen();
        screen.make(0, 0x33);
        screen.make(0, 0x33);
        screen.make(0, 0x33);
        screen.raise(1, true);
        screen.destroy(2);
        Check.due("1 is still above 3", 1, screen.owner(0, 0));
        screen.destroy(1);
        Check.due("3 is what is left", 3, screen.owner(0, 0));
    }

    private static DamageScreen twoWindows() {
        DamageScreen screen = new DamageScreen();
        screen.make(0, 0x33);
        screen.make(1, 0x22);
        screen.paint(1);
        return screen;
    }

    private static void refusals() {
        DamageScreen screen = twoWindows();
        int[] wrong = {0, -1, 3, 5, 6, 100, Integer.MIN_VALUE, Integer.MAX_VALUE};
        for (int window : wrong) {
            Check.due("destroy(" + window + ")", -1, screen.destroy(window));
        }
        Check.sameState("a refused destroy", twoWindows(), screen);
    }
}
