/** The width and height that make and size give for a size, and how they are seen on the screen. */
final class Sides {
    /** Each with a width and height in its lowest eight bits, and something above them. */
    static final int[] BEYOND_EIGHT_BITS = {
        0x100, 0x1FF, 0x134, 0x723, 0xF00, 0xFFFF, 0x10025, 0x7FFFFF52, 0x40000000, Integer.MAX_VALUE,
        -1, -2, -16, -204, -221, -255, -256, -257, -4096, -65536 + 0x34, Integer.MIN_VALUE,
        Integer.MIN_VALUE + 1, Integer.MIN_VALUE + 0x25, Integer.MIN_VALUE + 0xD0,
    };

    private Sides() {
    }

    /** Moves window 1, which nothing covers, over the screen's edges, so that all its pixels are seen. */
    static void check(String what, int size, DamageScreen screen) {
        int width = side(size & 15);
        int height = side(size >> 4 & 15);
        screen.move(1, 0, 0);
        Check.due(what + ", seen from the left upper corner", width * Math.min(height, 10), screen.visible(1));
        Check.due(what + ", dirty as it is new", width * Math.min(height, 10), screen.paint(1));
        screen.move(1, 0, -9);
        Check.due(what + ", seen from row 9 on", width * Math.max(height - 9, 0), screen.visible(1));
        screen.move(1, 1 - width, 1 - height);
        Check.due(what + ", its last pixel", 1, screen.owner(0, 0));
        Check.due(what + ", its last pixel alone", 1, screen.visible(1));
    }

    private static int side(int asked) {
        int[] sides = {1, 1, 2, 3, 4, 5, 6, 7, 8, 9, 10, 11, 12, 12, 12, 12};
        return sides[asked];
    }
}
