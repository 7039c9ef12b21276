/** Promise 6: raise. */
public final class RaiseTest {
    public static void main(String[] args) {
        orderOfSiblings();
        everyPlaceOfFive();
        windowsInsideComeAlong();
        onlySiblingsMatter();
        onlyTheSiblingsOfTheSameParent();
        whatIsUncoveredIsDirty();
        aHiddenWindowIsRaised();
        aloneAmongSiblings();
        onTopOrUnderAllAlready();
        refusedIfNotThere();
        refusedForTheBase();
        Check.end();
    }

    private static void orderOfSiblings() {
        DamageScreen screen = new DamageScreen();
        screen.make(0, 0x11);
        screen.make(0, 0x11);
        screen.make(0, 0x11);
        Check.due("raise(1, true)", 0, screen.raise(1, true));
        top("1 over 3 over 2", screen, 1, 3, 2);
        Check.due("raise(1, false)", 0, screen.raise(1, false));
        top("3 over 2 over 1", screen, 3, 2, 1);
        screen.raise(3, false);
        top("2 over 1 over 3", screen, 2, 1, 3);
        screen.raise(3, true);
        top("3 over 2 over 1 again", screen, 3, 2, 1);
        screen.raise(1, false);
        screen.raise(2, false);
        screen.make(0, 0x11);
        top("4, made last, over 3 over 1 over 2", screen, 4, 3, 1, 2);
        screen.raise(1, false);
        top("1 lowered under the lowered 2", screen, 4, 3, 2, 1);
    }

    /** Hides the windows from the top one on, and shows them again. */
    private static void top(String what, DamageScreen screen, int... order) {
        for (int window : order) {
            Check.due(what + ", owner(0, 0)", window, screen.owner(0, 0));
            screen.show(window, false);
        }
        for (int window : order) {
            screen.show(window, true);
        }
        Check.due(what + ", owner(0, 0) with all shown", order[0], screen.owner(0, 0));
    }

    private static void windowsInsideComeAlong() {
        DamageScreen screen = new DamageScreen();
        screen.make(0, 0x33);
        screen.make(1, 0x22);
        screen.make(0, 0x33);
        Check.due("visible(2) under 3", 0, screen.visible(2));
        screen.raise(2, true);
        Check.due("visible(2), raised in a covered window", 0, screen.visible(2));
        screen.raise(1, true);
        Check.due("visible(2) with its parent on top", 4, screen.visible(2));
        Check.due("visible(1)", 5, screen.visible(1));
        screen.raise(1, false);
        Check.due("visible(3)", 9, screen.visible(3));
    }

    private static void onlySiblingsMatter() {
        DamageScreen screen = new DamageScreen();
        screen.make(0, 0x33);
        screen.make(1, 0x22);
        screen.make(1, 0x22);
        screen.raise(1, true);
        Check.due("a child is over its raised parent", 3, screen.owner(0, 0));
        screen.raise(2, true);
        screen.raise(3, false);
        Check.due("a lowered child is under its sibling", 2, screen.owner(0, 0));
        screen.show(2, false);
        Check.due("a lowered child is over its parent", 3, screen.owner(0, 0));
    }

    private static void whatIsUncoveredIsDirty() {
        DamageScreen screen = new DamageScreen();
        screen.make(0, 0x44);
        screen.make(0, 0x44);
        screen.move(2, 2, 2);
        Check.paintAll(screen);
        screen.raise(1, true);
        Check.dirt("raise", screen,
            "............",
            "............",
            "..##........",
            "..##........",
            "............",
            "............",
            "............",
            "............",
            "............",
            "............");
        Check.due("paint(1)", 4, screen.paint(1));
        screen.raise(1, false);
        Check.due("paint(2), covered in between", 4, screen.paint(2));
    }

    /** From every window's place among five siblings to the top or the bottom; the others keep their order. */
    private static void everyPlaceOfFive() {
        for (int window = 1; window < 6; window++) {
            DamageScreen up = fiveSiblings();
            Check.due("raise(" + window + ", true) of five", 0, up.raise(window, true));
            top("raise(" + window + ", true) of five", up, firstThenRest(window));
            DamageScreen down = fiveSiblings();
            Check.due("raise(" + window + ", false) of five", 0, down.raise(window, false));
            top("raise(" + window + ", false) of five", down, restThenLast(window));
        }
    }

    private static DamageScreen fiveSiblings() {
        DamageScreen screen = new DamageScreen();
        for (int window = 1; window < 6; window++) {
            screen.make(0, 0x11);
        }
        return screen;
    }

    private static int[] firstThenRest(int first) {
        int[] order = new int[5];
        order[0] = first;
        int place = 1;
        for (int window = 5; window > 0; window--) {
            if (window != first) {
                order[place++] = window;
            }
        }
        return order;
    }

    private static int[] restThenLast(int last) {
        int[] order = firstThenRest(last);
        System.arraycopy(order, 1, order, 0, 4);
        order[4] = last;
        return order;
    }

    /** Two windows with two in each: a raise in one changes nothing in the other, nor between the two. */
    private static void onlyTheSiblingsOfTheSameParent() {
        DamageScreen screen = new DamageScreen();
        screen.make(0, 0x44);
        screen.make(0, 0x44);
        screen.move(2, 6, 0);
        screen.make(1, 0x22);
        screen.make(2, 0x22);
        screen.make(1, 0x22);
        Check.due("5 over 3 in 1", 5, screen.owner(0, 0));
        screen.raise(4, false);
        screen.raise(4, true);
        Check.due("5 is still over 3 in 1", 5, screen.owner(0, 0));
        screen.raise(3, true);
        Check.due("3 over 5 in 1", 3, screen.owner(0, 0));
        Check.due("4 in 2", 4, screen.owner(6, 0));
        screen.move(2, 0, 0);
        Check.due("2 with 4 is still over 1", 4, screen.owner(0, 0));
        screen.raise(5, true);
        Check.due("2 with 4 is still over 1, with 5 raised in 1", 4, screen.owner(0, 0));
        screen.raise(2, false);
        Check.due("5 in 1, which is over 2 now", 5, screen.owner(0, 0));
        screen.raise(5, false);
        Check.due("3 in 1, with 5 under it", 3, screen.owner(0, 0));
    }

    private static void aHiddenWindowIsRaised() {
        DamageScreen screen = new DamageScreen();
        screen.make(0, 0x33);
        screen.make(0, 0x33);
        screen.show(1, false);
        Check.due("raise of a hidden window", 0, screen.raise(1, true));
        Check.due("owner(0, 0), it is still hidden", 2, screen.owner(0, 0));
        screen.show(1, true);
        Check.due("owner(0, 0), shown on top", 1, screen.owner(0, 0));
        screen.show(1, false);
        Check.due("lowering of a hidden window", 0, screen.raise(1, false));
        screen.show(1, true);
        Check.due("owner(0, 0), shown under all", 2, screen.owner(0, 0));
    }

    private static void aloneAmongSiblings() {
        Check.answersAndKeeps("raise(2, true), alone in 1", 0, Screens::three, s -> s.raise(2, true));
        Check.answersAndKeeps("raise(2, false), alone in 1", 0, Screens::three, s -> s.raise(2, false));
    }

    private static void onTopOrUnderAllAlready() {
        Check.answersAndKeeps("raise(3, true) of the top one", 0, Screens::three, s -> s.raise(3, true));
        Check.answersAndKeeps("raise(1, false) of the lowest one", 0, Screens::three, s -> s.raise(1, false));
        Check.answersAndKeeps("raise(3, true) of the top one in 1", 0, Screens::full, s -> s.raise(3, true));
        Check.answersAndKeeps("raise(5, false) of the lowest one", 0, Screens::full, s -> s.raise(5, false));
    }

    private static void refusedIfNotThere() {
        for (int window : Check.NO_WINDOWS) {
            refusedBothWays(window);
        }
        for (int window = 1; window < 6; window++) {
            int number = window;
            Check.refused("raise(" + number + ", true), base alone", Screens.BASE_ALONE, s -> s.raise(number, true));
            Check.refused("raise(" + number + ", false), base alone", Screens.BASE_ALONE, s -> s.raise(number, false));
        }
    }

    private static void refusedForTheBase() {
        refusedBothWays(0);
        Check.refused("raise(0, true), base alone", Screens.BASE_ALONE, s -> s.raise(0, true));
        Check.refused("raise(0, false), base alone", Screens.BASE_ALONE, s -> s.raise(0, false));
    }

    private static void refusedBothWays(int window) {
        Check.refused("raise(" + window + ", true)", Screens.SOME_THERE, s -> s.raise(window, true));
        Check.refused("raise(" + window + ", false)", Screens.SOME_THERE, s -> s.raise(window, false));
        Check.refused("raise(" + window + ", true), all there", Screens.ALL_THERE, s -> s.raise(window, true));
        Check.refused("raise(" + window + ", false), all there", Screens.ALL_THERE, s -> s.raise(window, false));
    }
}
