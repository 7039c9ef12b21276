/** Promise 7: show. */
public final class ShowTest {
    public static void main(String[] args) {
        hideAndShow();
        windowsInsideVanish();
        hidingTheWindowAroundKeepsWhatIsHiddenInside();
        placeAndOrderAreKept();
        whatIsShownAlready();
        whatIsHiddenAlready();
        refusedIfNotThere();
        refusedForTheBase();
        Check.end();
    }

    private static void hideAndShow() {
        DamageScreen screen = new DamageScreen();
        screen.make(0, 0x23);
        Check.paintAll(screen);
        Check.due("show(1, false)", 0, screen.show(1, false));
        Check.due("visible(1) hidden", 0, screen.visible(1));
        Check.due("owner(0, 0) hidden", 0, screen.owner(0, 0));
        Check.due("paint(1) hidden", 0, screen.paint(1));
        Check.due("paint(0) of what it gained", 6, screen.paint(0));
        Check.due("show(1, true)", 0, screen.show(1, true));
        Check.due("visible(1) shown", 6, screen.visible(1));
        Check.due("paint(1) shown", 6, screen.paint(1));
        Check.due("paint(0)", 0, screen.paint(0));
    }

    private static void windowsInsideVanish() {
        DamageScreen screen = new DamageScreen();
        screen.make(0, 0x66);
        screen.make(1, 0x44);
        screen.make(2, 0x22);
        screen.show(3, false);
        screen.show(1, false);
        Check.due("visible(2) in a hidden window", 0, screen.visible(2));
        Check.due("show(3, true) in a hidden window", 0, screen.show(3, true));
        Check.due("visible(3) in a hidden window", 0, screen.visible(3));
        Check.due("make in a hidden window", 4, screen.make(1, 0x11));
        Check.due("visible(4) in a hidden window", 0, screen.visible(4));
        Check.due("visible(0)", 120, screen.visible(0));
        screen.show(1, true);
        Check.due("visible(1)", 20, screen.visible(1));
        Check.due("visible(2)", 12, screen.visible(2));
        Check.due("visible(3)", 3, screen.visible(3));
        Check.due("visible(4)", 1, screen.visible(4));
    }

    private static void placeAndOrderAreKept() {
        DamageScreen screen = new DamageScreen();
        screen.make(0, 0x44);
        screen.make(0, 0x44);
        screen.move(1, 1, 1);
        screen.show(1, false);
        screen.show(1, true);
        Check.due("1, shown again, is under 2", 2, screen.owner(1, 1));
        Check.due("1, shown again, is where it was", 1, screen.owner(4, 4));
        Check.due("visible(1)", 7, screen.visible(1));
        screen.show(1, false);
        screen.raise(1, true);
        screen.size(1, 0x22);
        Check.due("visible(1), raised and sized while hidden", 0, screen.visible(1));
        screen.show(1, true);
        Check.due("visible(1), shown after that", 4, screen.visible(1));
    }

    private static void whatIsShownAlready() {
        for (int window = 1; window < 6; window++) {
            int number = window;
            Check.answersAndKeeps("show(" + number + ", true), shown already", 0, Screens::full,
                s -> s.show(number, true));
        }
        Check.answersAndKeeps("show(2, true), shown already in a hidden one", 0, Screens::hidden,
            s -> s.show(2, true));
    }

    private static void whatIsHiddenAlready() {
        Check.answersAndKeeps("show(1, false), hidden already", 0, Screens::hidden, s -> s.show(1, false));
        DamageScreen screen = Screens.hidden();
        screen.show(1, false);
        screen.show(1, false);
        screen.show(1, true);
        Check.due("visible(1), hidden thrice and shown once", 26, screen.visible(1));
        Check.due("visible(2), in it", 4, screen.visible(2));
        screen.show(1, true);
        screen.show(1, false);
        Check.due("visible(1), shown twice and hidden once", 0, screen.visible(1));
    }

    private static void hidingTheWindowAroundKeepsWhatIsHiddenInside() {
        DamageScreen screen = Screens.hidden();
        screen.show(2, false);
        screen.show(1, true);
        Check.due("visible(2), hidden itself", 0, screen.visible(2));
        screen.show(2, true);
        Check.due("visible(2), shown", 4, screen.visible(2));
    }

    private static void refusedIfNotThere() {
        for (int window : Check.NO_WINDOWS) {
            refusedBothWays(window);
        }
        for (int window = 1; window < 6; window++) {
            int number = window;
            Check.refused("show(" + number + ", true), base alone", Screens.BASE_ALONE, s -> s.show(number, true));
            Check.refused("show(" + number + ", false), base alone", Screens.BASE_ALONE, s -> s.show(number, false));
        }
    }

    private static void refusedForTheBase() {
        refusedBothWays(0);
        Check.refused("show(0, true), base alone", Screens.BASE_ALONE, s -> s.show(0, true));
        Check.refused("show(0, false), base alone", Screens.BASE_ALONE, s -> s.show(0, false));
    }

    private static void refusedBothWays(int window) {
        Check.refused("show(" + window + ", true)", Screens.SOME_THERE, s -> s.show(window, true));
        Check.refused("show(" + window + ", false)", Screens.SOME_THERE, s -> s.show(window, false));
        Check.refused("show(" + window + ", true), all there", Screens.ALL_THERE, s -> s.show(window, true));
        Check.refused("show(" + window + ", false), all there", Screens.ALL_THERE, s -> s.show(window, false));
    }
}
