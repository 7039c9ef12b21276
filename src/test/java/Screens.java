import java.util.List;
import java.util.function.Supplier;

/** Screens to begin a test with; each is made by fewer than twenty calls. */
final class Screens {
    /** No window but the base is there. */
    static final List<Supplier<DamageScreen>> BASE_ALONE = List.of(Screens::base, DamageScreen::new);

    /** Windows 1 to 3 are there; 4 and 5 were there once. */
    static final List<Supplier<DamageScreen>> SOME_THERE =
        List.of(Screens::three, Screens::threeUnpainted, Screens::hidden);

    /** All windows are there. */
    static final List<Supplier<DamageScreen>> ALL_THERE =
        List.of(Screens::full, Screens::fullUnpainted, Screens::fullHidden);

    private Screens() {
    }

    /** The base alone, half of it clean. */
    static DamageScreen base() {
        DamageScreen screen = new DamageScreen();
        screen.paint(0);
        screen.spoil(0, 0, 5, 0xCF);
        return screen;
    }

    /** As three, but all pixels are dirty. */
    static DamageScreen threeUnpainted() {
        DamageScreen screen = new DamageScreen();
        screen.make(0, 0x66);
        screen.move(1, 1, 1);
        screen.make(1, 0x43);
        screen.move(2, 4, 1);
        screen.make(0, 0x3A);
        screen.move(3, 5, 4);
        screen.make(0, 0x22);
        screen.make(4, 0x11);
        screen.destroy(4);
        return screen;
    }

    /**
     * Window 2 in window 1, which is partly under window 3; 4 and 5, which was in it, were there
     * once. Some pixels of 1 and all of 2 are dirty.
     */
    static DamageScreen three() {
        DamageScreen screen = threeUnpainted();
        screen.paint(0);
        screen.paint(1);
        screen.paint(3);
        screen.spoil(1, 1, 1, 0x22);
        return screen;
    }

    /** As three, but window 1 is hidden, and with it window 2; the base is clean. */
    static DamageScreen hidden() {
        DamageScreen screen = three();
        screen.show(1, false);
        screen.paint(0);
        return screen;
    }

    /** As full, but all pixels are dirty. */
    static DamageScreen fullUnpainted() {
        DamageScreen screen = new DamageScreen();
        screen.make(0, 0x88);
        screen.make(1, 0x55);
        screen.make(1, 0x33);
        screen.make(2, 0x22);
        screen.make(0, 0x9A);
        screen.move(1, 1, 0);
        screen.move(2, 2, 1);
        screen.move(3, 5, 4);
        screen.move(4, -1, 3);
        screen.raise(5, false);
        return screen;
    }

    /** All windows are there: 2 and 3 in 1, 4 in 2, 5 in the base and under 1; some pixels are dirty. */
    static DamageScreen full() {
        DamageScreen screen = fullUnpainted();
        screen.paint(0);
        screen.paint(1);
        screen.paint(2);
        screen.paint(5);
        screen.spoil(1, 0, 0, 0x2F);
        return screen;
    }

    /** As full, but all windows save 1 are hidden. */
    static DamageScreen fullHidden() {
        DamageScreen screen = fullUnpainted();
        for (int window = 2; window < 6; window++) {
            screen.show(window, false);
        }
        screen.paint(1);
        return screen;
    }

    /** Window 1 in 2, 2 in 3, 3 in 4, 4 in 5, each one pixel to the right of the one around it. */
    static DamageScreen chainOfGreaterParents() {
        DamageScreen screen = new DamageScreen();
        for (int window = 1; window < 6; window++) {
            screen.make(0, 0xCC);
        }
        for (int window = 4; window >= 1; window--) {
            screen.destroy(window);
            screen.make(window + 1, 0xCC);
        }
        for (int window = 1; window < 6; window++) {
            screen.move(window, 1, 0);
        }
        return screen;
    }
}
