/** Promise 6: raise. */
public final class RaiseTest {
    public static void main(String[] args) {
        orderOfSiblings();
        windowsInsideComeAlong();
        onlySiblingsMatter();
        whatIsUncoveredIsDirty();
        aRaiseThatChangesNothing();
        refusals();
        Check.end();
    }

    private static void orderOfSiblings() {
        DamageScreen screen = new DamageScreen();
        screen.make(0, 0x11);
        screen.make(0, 0x11);
        screen.make(0, 0x11);
        Check.due("raise(1, true)", 0, screen.raise(1, true));
        top("1 over 3 over 2", screen, 1, 3, 2);
        Check.due("raise(1, false)", 0, screen.raise(1, false));
        top("3 over 2 over 1", screen, 3, 2, 1);
        screen.raise(3, false);
        top("2 over 1 over 3", screen, 2, 1, 3);
        screen.raise(3, true);
        top("3 over 2 over 1 again", screen, 3, 2, 1);
        screen.raise(1, false);
        screen.raise(2, false);
        screen.make(0, 0x11);
        top("4, made last, over 3 over 1 over 2", screen, 4, 3, 1, 2);
        screen.raise(1, false);
        top("1 lowered under the lowered 2", screen, 4, 3, 2, 1);
    }

    /** Hides the windows from the top one on, and shows them again. */
    private static void top(String what, DamageScreen screen, int... order) {
        for (int window : order) {
            Check.due(what + ", owner(0, 0)", window, screen.owner(0, 0));
            screen.show(window, false);
        }
        for (int window : order) {
            screen.show(window, true);
        }
        Check.due(what + ", owner(0, 0) with all shown", order[0], screen.owner(0, 0));
    }

    private static void windowsInsideComeAlong() {
        DamageScreen screen = new DamageScreen();
        screen.make(0, 0x33);
        screen.make(1, 0x22);
        screen.make(0, 0x33);
        Check.due("visible(2) under 3", 0, screen.visible(2));
        screen.raise(2, true);
        Check.due("visible(2), raised in a covered window", 0, screen.visible(2));
        screen.raise(1, true);
        Check.due("visible(2) with its parent on top", 4, screen.visible(2));
        Check.due("visible(1)", 5, screen.visible(1));
        screen.raise(1, false);
        Check.due("visible(3)", 9, screen.visible(3));
    }

    private static void onlySiblingsMatter() {
        DamageScreen screen = new DamageScreen();
        screen.make(0, 0x33);
        screen.make(1, 0x22);
        screen.make(1, 0x22);
        screen.raise(1, true);
        Check.due("a child is over its raised parent", 3, screen.owner(0, 0));
        screen.raise(2, true);
        screen.raise(3, false);
        Check.due("a lowered child is under its sibling", 2, screen.owner(0, 0));
        screen.show(2, false);
        Check.due("a lowered child is over its parent", 3, screen.owner(0, 0));
    }

    private static void whatIsUncoveredIsDirty() {
        DamageScreen screen = new DamageScreen();
        screen.make(0, 0x44);
        screen.make(0, 0x44);
        screen.move(2, 2, 2);
        Check.paintAll(screen);
        screen.raise(1, true);
        Check.dirt("raise", screen,
            "............",
            "............",
            "..##........",
            "..##........",
            "............",
            "............",
            "............",
            "............",
            "............",
            "............");
        Check.due("paint(1)", 4, screen.paint(1));
        screen.raise(1, false);
        Check.due("paint(2), covered in between", 4, screen.paint(2));
    }

    private static DamageScreen twoWindows() {
        DamageScreen screen = new DamageScreen();
        screen.make(0, 0x44);
        screen.make(0, 0x33);
        screen.paint(2);
        return screen;
    }

    private static void aRaiseThatChangesNothing() {
        DamageScreen screen = twoWindows();
        Check.due("raise(2, true) of the top one", 0, screen.raise(2, true));
        Check.due("raise(1, false) of the lowest one", 0, screen.raise(1, false));
        Check.sameState("a raise to the same place", twoWindows(), screen);
    }

    private static void refusals() {
        DamageScreen screen = twoWindows();
        int[] wrong = {0, -1, 3, 5, 6, 100, Integer.MIN_VALUE, Integer.MAX_VALUE};
        for (int window : wrong) {
            Check.due("raise(" + window + ", true)", -1, screen.raise(window, true));
            Check.due("raise(" + window + ", false)", -1, screen.raise(window, false));
        }
        Check.sameState("a refused raise", twoWindows(), screen);
    }
}
