/** Promise 3: destroy. */
public final class DestroyTest {
    public static void main(String[] args) {
        oneWindow();
        windowsInWindows();
        aParentWithAGreaterNumber();
        aParentWithALesserNumber();
        allWindowsOfOneParent();
        hiddenAndCoveredOnesCount();
        windowsInAWindowThatIsLeftStay();
        theOthersKeepTheirOrder();
        noLongerThereForAnyCall();
        refusedIfNotThere();
        refusedForTheBase();
        Check.end();
    }

    private static void oneWindow() {
        DamageScreen screen = new DamageScreen();
        screen.make(0, 0x22);
        Check.paintAll(screen);
        Check.due("destroy(1)", 1, screen.destroy(1));
        Check.due("visible(1) after destroy", -1, screen.visible(1));
        Check.due("visible(0) after destroy", 120, screen.visible(0));
        Check.due("dirty(1, 1), which 1 owned", 1, screen.dirty(1, 1));
        Check.due("dirty(2, 2), which the base owned", 0, screen.dirty(2, 2));
        Check.due("paint(0) after destroy", 4, screen.paint(0));
        Check.due("destroy(1) again", -1, screen.destroy(1));
    }

    private static void windowsInWindows() {
        DamageScreen screen = new DamageScreen();
        screen.make(0, 0x88);
        screen.make(1, 0x44);
        screen.make(2, 0x22);
        screen.make(1, 0x11);
        screen.make(0, 0x11);
        screen.show(3, false);
        Check.due("destroy(2) with a hidden one in it", 2, screen.destroy(2));
        Check.due("visible(3)", -1, screen.visible(3));
        Check.due("visible(4), under 5", 0, screen.visible(4));
        Check.due("destroy(1) with 4 in it", 2, screen.destroy(1));
        Check.due("visible(4) after destroy(1)", -1, screen.visible(4));
        Check.due("visible(5) is left", 1, screen.visible(5));
    }

    private static void aParentWithAGreaterNumber() {
        for (int window = 1; window < 6; window++) {
            DamageScreen screen = Screens.chainOfGreaterParents();
            Check.due("destroy(" + window + ") in the chain", window, screen.destroy(window));
            for (int other = 1; other < 6; other++) {
                boolean gone = other <= window;
                Check.isTrue("visible(" + other + ") after destroy(" + window + ")", screen.visible(other) < 0 == gone);
            }
            Check.due("make after destroy(" + window + ")", 1, screen.make(0, 0x11));
        }
    }

    private static void aParentWithALesserNumber() {
        for (int window = 1; window < 6; window++) {
            DamageScreen screen = new DamageScreen();
            for (int parent = 0; parent < 5; parent++) {
                screen.make(parent, 0xCC);
            }
            Check.due("destroy(" + window + ") of five in each other", 6 - window, screen.destroy(window));
            for (int other = 0; other < 6; other++) {
                int due = other >= window ? -1 : other == window - 1 ? 120 : 0;
                Check.due("visible(" + other + ") after destroy(" + window + ")", due, screen.visible(other));
            }
        }
    }

    private static void allWindowsOfOneParent() {
        DamageScreen screen = new DamageScreen();
        screen.make(0, 0xCC);
        for (int window = 2; window < 6; window++) {
            screen.make(1, 0x11);
        }
        Check.due("destroy(3), with none in it", 1, screen.destroy(3));
        Check.due("destroy(1), with 2, 4 and 5 in it", 4, screen.destroy(1));
        Check.due("visible(0)", 120, screen.visible(0));
    }

    private static void hiddenAndCoveredOnesCount() {
        DamageScreen screen = Screens.full();
        screen.show(4, false);
        screen.move(3, 15, 15);
        screen.show(1, false);
        Check.due("destroy(1), hidden, with hidden ones and one outside in it", 4, screen.destroy(1));
        Check.due("visible(5), which is left", 90, screen.visible(5));
    }

    private static void windowsInAWindowThatIsLeftStay() {
        DamageScreen screen = Screens.full();
        Check.due("destroy(5)", 1, screen.destroy(5));
        Check.due("destroy(3), beside 2 with 4 in it", 1, screen.destroy(3));
        Check.due("destroy(2), with 4 in it", 2, screen.destroy(2));
        Check.due("destroy(1)", 1, screen.destroy(1));
    }

    private static void noLongerThereForAnyCall() {
        for (int gone = 4; gone < 6; gone++) {
            int window = gone;
            String of = "(" + gone + ") of what is there no longer";
            Check.refused("destroy" + of, Screens.SOME_THERE, s -> s.destroy(window));
            Check.refused("move" + of, Screens.SOME_THERE, s -> s.move(window, 1, 1));
            Check.refused("size" + of, Screens.SOME_THERE, s -> s.size(window, 0x55));
            Check.refused("raise" + of, Screens.SOME_THERE, s -> s.raise(window, true));
            Check.refused("lowering" + of, Screens.SOME_THERE, s -> s.raise(window, false));
            Check.refused("show" + of, Screens.SOME_THERE, s -> s.show(window, true));
            Check.refused("hiding" + of, Screens.SOME_THERE, s -> s.show(window, false));
            Check.refused("paint" + of, Screens.SOME_THERE, s -> s.paint(window));
            Check.refused("spoil" + of, Screens.SOME_THERE, s -> s.spoil(window, 0, 0, 0xFF));
            Check.refused("visible" + of, Screens.SOME_THERE, s -> s.visible(window));
            Check.refused("make" + of, Screens.SOME_THERE, s -> s.make(window, 0x55));
        }
    }

    private static void theOthersKeepTheirOrder() {
        DamageScreen screen = new DamageScreen();
        screen.make(0, 0x33);
        screen.make(0, 0x33);
        screen.make(0, 0x33);
        screen.raise(1, true);
        screen.destroy(2);
        Check.due("1 is still above 3", 1, screen.owner(0, 0));
        screen.destroy(1);
        Check.due("3 is what is left", 3, screen.owner(0, 0));
    }

    private static void refusedIfNotThere() {
        for (int window : Check.NO_WINDOWS) {
            Check.refused("destroy(" + window + ")", Screens.SOME_THERE, s -> s.destroy(window));
            Check.refused("destroy(" + window + "), all there", Screens.ALL_THERE, s -> s.destroy(window));
        }
        for (int window = 1; window < 6; window++) {
            int number = window;
            Check.refused("destroy(" + number + "), base alone", Screens.BASE_ALONE, s -> s.destroy(number));
        }
    }

    private static void refusedForTheBase() {
        Check.refused("destroy(0), base alone", Screens.BASE_ALONE, s -> s.destroy(0));
        Check.refused("destroy(0)", Screens.SOME_THERE, s -> s.destroy(0));
        Check.refused("destroy(0), all there", Screens.ALL_THERE, s -> s.destroy(0));
    }
}
