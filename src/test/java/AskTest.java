/** Promises 10, 11 and 12: owner, dirty and visible. */
public final class AskTest {
    private static final int[][] OUTSIDE = {
        {-1, 0}, {0, -1}, {12, 0}, {0, 10}, {12, 10}, {-1, -1}, {11, 10}, {12, 9}, {10, 11},
        {Integer.MIN_VALUE, 0}, {0, Integer.MIN_VALUE}, {Integer.MAX_VALUE, 0}, {0, Integer.MAX_VALUE},
        {Integer.MAX_VALUE, Integer.MAX_VALUE}, {Integer.MIN_VALUE, Integer.MIN_VALUE},
    };

    public static void main(String[] args) {
        owners();
        dirt();
        visible();
        everyPlaceAround();
        farPlaces();
        outOfRangeKeepsAll();
        visibleOfNothing();
        visibleOfWhatIsNotThere();
        askingKeepsAll();
        askingChangesNothing();
        Check.end();
    }

    private static DamageScreen someWindows() {
        DamageScreen screen = new DamageScreen();
        screen.make(0, 0x66);
        screen.move(1, 1, 1);
        screen.make(1, 0x43);
        screen.move(2, 4, 1);
        screen.make(2, 0x22);
        screen.move(3, 1, 3);
        screen.make(0, 0x3A);
        screen.move(4, 5, 5);
        screen.make(1, 0x33);
        screen.move(5, -1, 4);
        return screen;
    }

    private static void owners() {
        DamageScreen screen = someWindows();
        Check.owners("windows in windows", screen,
            "000000000000",
            "011111100000",
            "011112200000",
            "011112200000",
            "011112200000",
            "055114444444",
            "055114444444",
            "000004444444",
            "000000000000",
            "000000000000");
        screen.raise(1, true);
        Check.owners("the first one raised", screen,
            "000000000000",
            "011111100000",
            "011112200000",
            "011112200000",
            "011112200000",
            "055112344444",
            "055111144444",
            "000004444444",
            "000000000000",
            "000000000000");
        for (int[] place : OUTSIDE) {
            Check.due("owner(" + place[0] + ", " + place[1] + ")", -1, screen.owner(place[0], place[1]));
        }
    }

    private static void dirt() {
        DamageScreen screen = someWindows();
        screen.paint(0);
        screen.paint(2);
        Check.dirt("base and window 2 painted", screen,
            "............",
            ".######.....",
            ".####.......",
            ".####.......",
            ".####.......",
            ".###########",
            ".###########",
            ".....#######",
            "............",
            "............");
        for (int[] place : OUTSIDE) {
            Check.due("dirty(" + place[0] + ", " + place[1] + ")", -1, screen.dirty(place[0], place[1]));
        }
    }

    private static void visible() {
        DamageScreen screen = someWindows();
        int[] due = {67, 22, 6, 0, 21, 4};
        for (int window = 0; window < 6; window++) {
            Check.due("visible(" + window + ")", due[window], screen.visible(window));
        }
        screen.destroy(4);
        int[] wrong = {4, -1, 6, 7, 100, Integer.MIN_VALUE, Integer.MAX_VALUE};
        for (int window : wrong) {
            Check.due("visible(" + window + ")", -1, screen.visible(window));
        }
        Check.due("visible(3), uncovered", 1, screen.visible(3));
    }

    /** Every place from just before the screen to just behind it, and far around. */
    private static void everyPlaceAround() {
        for (int y = -20; y <= 30; y++) {
            DamageScreen screen = new DamageScreen();
            screen.make(0, 0xFF);
            screen.move(1, 5, 4);
            screen.paint(1);
            for (int x = -20; x <= 30; x++) {
                boolean onScreen = x >= 0 && x <= 11 && y >= 0 && y <= 9;
                boolean inside = x >= 5 && y >= 4;
                String place = "(" + x + ", " + y + ")";
                Check.due("owner" + place, !onScreen ? -1 : inside ? 1 : 0, screen.owner(x, y));
                Check.due("dirty" + place, !onScreen ? -1 : inside ? 0 : 1, screen.dirty(x, y));
            }
        }
    }

    /** One number is right, the other far out: products and sums of them may come back into range. */
    private static void farPlaces() {
        int[] far = {
            -12, -10, -120, -128, -256, 120, 128, 256, 1 << 16, 1 << 28, 1 << 30, -(1 << 28), -(1 << 30),
            (1 << 28) + 1, (1 << 30) + 1, Integer.MIN_VALUE, Integer.MIN_VALUE + 1, Integer.MIN_VALUE + 11,
            Integer.MAX_VALUE, Integer.MAX_VALUE - 1, Integer.MAX_VALUE / 12 + 1, Integer.MIN_VALUE / 12,
        };
        DamageScreen screen = Screens.three();
        for (int number : far) {
            int[][] places = {{number, 0}, {0, number}, {number, 9}, {11, number}, {number, number}};
            for (int[] place : places) {
                Check.due("owner(" + place[0] + ", " + place[1] + ")", -1, screen.owner(place[0], place[1]));
                Check.due("dirty(" + place[0] + ", " + place[1] + ")", -1, screen.dirty(place[0], place[1]));
            }
        }
    }

    private static void outOfRangeKeepsAll() {
        for (int[] place : OUTSIDE) {
            String where = "(" + place[0] + ", " + place[1] + ")";
            Check.refused("owner" + where, Screens.SOME_THERE, s -> s.owner(place[0], place[1]));
            Check.refused("dirty" + where, Screens.SOME_THERE, s -> s.dirty(place[0], place[1]));
        }
    }

    private static void askingKeepsAll() {
        Check.answersAndKeeps("owner(5, 2)", 2, Screens::three, s -> s.owner(5, 2));
        Check.answersAndKeeps("dirty(5, 2)", 1, Screens::three, s -> s.dirty(5, 2));
        Check.answersAndKeeps("dirty(1, 1)", 0, Screens::three, s -> s.dirty(1, 1));
        Check.answersAndKeeps("visible(2)", 4, Screens::three, s -> s.visible(2));
    }

    private static void visibleOfNothing() {
        DamageScreen screen = Screens.hidden();
        Check.due("visible(1), hidden", 0, screen.visible(1));
        Check.due("visible(2), in a hidden one", 0, screen.visible(2));
        screen.move(3, -15, 0);
        Check.due("visible(3), outside", 0, screen.visible(3));
        Check.due("visible(0), alone on the screen", 120, screen.visible(0));
        screen.make(0, 0xFF);
        Check.due("visible(0), covered", 0, screen.visible(0));
        Check.due("visible(4), all of the screen", 120, screen.visible(4));
        screen.make(4, 0xFF);
        Check.due("visible(4), covered by what is in it", 0, screen.visible(4));
    }

    private static void visibleOfWhatIsNotThere() {
        for (int window : Check.NO_WINDOWS) {
            Check.refused("visible(" + window + ")", Screens.SOME_THERE, s -> s.visible(window));
            Check.refused("visible(" + window + "), all there", Screens.ALL_THERE, s -> s.visible(window));
        }
        Check.refused("visible(4), destroyed", Screens.SOME_THERE, s -> s.visible(4));
        for (int window = 1; window < 6; window++) {
            int number = window;
            Check.refused("visible(" + number + "), base alone", Screens.BASE_ALONE, s -> s.visible(number));
        }
    }

    private static void askingChangesNothing() {
        DamageScreen screen = someWindows();
        screen.paint(1);
        for (int[] place : OUTSIDE) {
            screen.owner(place[0], place[1]);
            screen.dirty(place[0], place[1]);
        }
        for (int pixel = 0; pixel < 120; pixel++) {
            screen.owner(pixel % 12, pixel / 12);
            screen.dirty(pixel % 12, pixel / 12);
        }
        for (int window = -1; window < 7; window++) {
            screen.visible(window);
        }
        Check.due("paint(1) after asking", 0, screen.paint(1));
        Check.due("paint(4) after asking", 21, screen.paint(4));
        Check.due("paint(0) after asking", 67, screen.paint(0));
        Check.due("visible(2) after asking", 6, screen.visible(2));
    }
}
