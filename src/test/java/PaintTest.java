/** Promise 8: paint. */
public final class PaintTest {
    public static void main(String[] args) {
        onlyOwnPixels();
        onlyDirtyOnesCount();
        nothingDirty();
        nothingOwned();
        everythingDirty();
        refusedIfNotThere();
        Check.end();
    }

    private static void onlyOwnPixels() {
        DamageScreen screen = new DamageScreen();
        screen.make(0, 0x34);
        screen.move(1, 3, 2);
        screen.make(1, 0x12);
        Check.due("paint(1)", 10, screen.paint(1));
        Check.dirt("paint(1) leaves the others alone", screen,
            "############",
            "############",
            "#####..#####",
            "###....#####",
            "###....#####",
            "############",
            "############",
            "############",
            "############",
            "############");
        Check.due("paint(0)", 108, screen.paint(0));
        Check.due("dirty(3, 2) of window 2", 1, screen.dirty(3, 2));
        Check.due("paint(2)", 2, screen.paint(2));
        Check.due("dirty(3, 2) painted", 0, screen.dirty(3, 2));
    }

    private static void onlyDirtyOnesCount() {
        DamageScreen screen = new DamageScreen();
        Check.due("paint(0)", 120, screen.paint(0));
        Check.due("paint(0) again", 0, screen.paint(0));
        screen.spoil(0, 4, 4, 0x23);
        Check.due("paint(0) after spoil", 6, screen.paint(0));
        Check.due("dirty(4, 4)", 0, screen.dirty(4, 4));
    }

    private static void nothingDirty() {
        Check.answersAndKeeps("paint(3), nothing dirty", 0, Screens::three, s -> s.paint(3));
        Check.answersAndKeeps("paint(0), nothing dirty", 0, Screens::three, s -> s.paint(0));
        DamageScreen screen = Screens.three();
        Check.due("paint(1)", 4, screen.paint(1));
        Check.due("paint(1) again", 0, screen.paint(1));
    }

    private static void nothingOwned() {
        DamageScreen screen = new DamageScreen();
        screen.make(0, 0xAC);
        Check.due("paint(0) of a covered base", 0, screen.paint(0));
        screen.show(1, false);
        Check.due("paint(1) of a hidden window", 0, screen.paint(1));
        Check.due("paint(0) after all", 120, screen.paint(0));
        Check.answersAndKeeps("paint(1), hidden", 0, Screens::hidden, s -> s.paint(1));
        Check.answersAndKeeps("paint(2), in a hidden one", 0, Screens::hidden, s -> s.paint(2));
        Check.answersAndKeeps("paint(1), outside", 0, PaintTest::outside, s -> s.paint(1));
        Check.answersAndKeeps("paint(2), in one that is outside", 0, PaintTest::outside, s -> s.paint(2));
        Check.answersAndKeeps("paint(3), covered", 0, PaintTest::outside, s -> s.paint(3));
    }

    /** Window 1 is outside, with 2 in it; 3 is covered by 4. Nothing is painted. */
    private static DamageScreen outside() {
        DamageScreen screen = new DamageScreen();
        screen.make(0, 0x33);
        screen.make(1, 0x33);
        screen.make(0, 0x33);
        screen.make(0, 0x44);
        screen.move(1, 12, 0);
        return screen;
    }

    private static void everythingDirty() {
        Check.due("paint(0) of the whole screen", 120, new DamageScreen().paint(0));
        DamageScreen screen = new DamageScreen();
        screen.make(0, 0xFF);
        Check.due("paint(1) of the whole screen", 120, screen.paint(1));
        Check.due("dirty(0, 0)", 0, screen.dirty(0, 0));
        Check.due("dirty(11, 9)", 0, screen.dirty(11, 9));
    }

    private static void refusedIfNotThere() {
        for (int window : Check.NO_WINDOWS) {
            Check.refused("paint(" + window + ")", Screens.SOME_THERE, s -> s.paint(window));
            Check.refused("paint(" + window + "), all there", Screens.ALL_THERE, s -> s.paint(window));
        }
        for (int window = 1; window < 6; window++) {
            int number = window;
            Check.refused("paint(" + number + "), base alone", Screens.BASE_ALONE, s -> s.paint(number));
        }
    }
}
