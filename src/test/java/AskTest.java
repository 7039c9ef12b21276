/** Promises 10, 11 and 12: owner, dirty and visible. */
public final class AskTest {
    private static final int[][] OUTSIDE = {
        {-1, 0}, {0, -1}, {12, 0}, {0, 10}, {12, 10}, {-1, -1}, {11, 10}, {12, 9}, {10, 11},
        {Integer.MIN_VALUE, 0}, {0, Integer.MIN_VALUE}, {Integer.MAX_VALUE, 0}, {0, Integer.MAX_VALUE},
        {Integer.MAX_VALUE, Integer.MAX_VALUE}, {Integer.MIN_VALUE, Integer.MIN_VALUE},
    };

    public static void main(String[] args) {
        owners();
        dirt();
        visible();
        askingChangesNothing();
        Check.end();
    }

    private static DamageScreen someWindows() {
        DamageScreen screen = new DamageScreen();
        screen.make(0, 0x66);
        screen.move(1, 1, 1);
        screen.make(1, 0x43);
        screen.move(2, 4, 1);
        screen.make(2, 0x22);
        screen.move(3, 1, 3);
        screen.make(0, 0x3A);
        screen.move(4, 5, 5);
        screen.make(1, 0x33);
        screen.move(5, -1, 4);
        return screen;
    }

    private static void owners() {
        DamageScreen screen = someWindows();
        Check.owners("windows in windows", screen,
            "000000000000",
            "011111100000",
            "011112200000",
            "011112200000",
            "011112200000",
            "055114444444",
            "055114444444",
            "000004444444",
            "000000000000",
            "000000000000");
        screen.raise(1, true);
        Check.owners("the first one raised", screen,
            "000000000000",
            "011111100000",
            "011112200000",
            "011112200000",
            "011112200000",
            "055112344444",
            "055111144444",
            "000004444444",
            "000000000000",
            "000000000000");
        for (int[] place : OUTSIDE) {
            Check.due("owner(" + place[0] + ", " + place[1] + ")", -1, screen.owner(place[0], place[1]));
        }
    }

    private static void dirt() {
        DamageScreen screen = someWindows();
        screen.paint(0);
        screen.paint(2);
        Check.dirt("base and window 2 painted", screen,
            "............",
            ".######.....",
            ".####.......",
            ".####.......",
            ".####.......",
            ".###########",
            ".###########",
            ".....#######",
            "............",
            "............");
        for (int[] place : OUTSIDE) {
            Check.due("dirty(" + place[0] + ", " + place[1] + ")", -1, screen.dirty(place[0], place[1]));
        }
    }

    private static void visible() {
        DamageScreen screen = someWindows();
        int[] due = {67, 22, 6, 0, 21, 4};
        for (int window = 0; window < 6; window++) {
            Check.due("visible(" + window + ")", due[window], screen.visible(window));
        }
        screen.destroy(4);
        int[] wrong = {4, -1, 6, 7, 100, Integer.MIN_VALUE, Integer.MAX_VALUE};
        for (int window : wrong) {
            Check.due("visible(" + window + ")", -1, screen.visible(window));
        }
        Check.due("visible(3), uncovered", 1, screen.visible(3));
    }

    private static void askingChangesNothing() {
        DamageScreen screen = someWindows();
        screen.paint(1);
        for (int[] place : OUTSIDE) {
            screen.owner(place[0], place[1]);
            screen.dirty(place[0], place[1]);
        }
        for (int pixel = 0; pixel < 120; pixel++) {
            screen.owner(pixel % 12, pixel / 12);
            screen.dirty(pixel % 12, pixel / 12);
        }
        for (int window = -1; window < 7; window++) {
            screen.visible(window);
        }
        Check.due("paint(1) after asking", 0, screen.paint(1));
        Check.due("paint(4) after asking", 21, screen.paint(4));
        Check.due("paint(0) after asking", 67, screen.paint(0));
        Check.due("visible(2) after asking", 6, screen.visible(2));
    }
}
