/** Compares answers with those that are due, and ends the test with exit code 1 if one differs. */
final class Check {
    private static int wrong = 0;

    private Check() {
    }

    static void due(String what, long want, long got) {
        if (got != want) {
            wrong++;
            System.out.println(what + " answered " + got + ", due is " + want);
        }
    }

    static void isTrue(String what, boolean holds) {
        if (!holds) {
            wrong++;
            System.out.println("does not hold: " + what);
        }
    }

    /** The screen's owners, a row of digits for each row of pixels. */
    static void owners(String what, DamageScreen screen, String... rows) {
        for (int y = 0; y < 10; y++) {
            StringBuilder got = new StringBuilder();
            for (int x = 0; x < 12; x++) {
                got.append(screen.owner(x, y));
            }
            sameRow(what + ", owners of row " + y, rows[y], got.toString());
        }
    }

    /** The screen's dirt, a row for each row of pixels: '#' is dirty, '.' is clean. */
    static void dirt(String what, DamageScreen screen, String... rows) {
        for (int y = 0; y < 10; y++) {
            StringBuilder got = new StringBuilder();
            for (int x = 0; x < 12; x++) {
                got.append(screen.dirty(x, y) == 1 ? '#' : '.');
            }
            sameRow(what + ", dirt of row " + y, rows[y], got.toString());
        }
    }

    /**
     * Everything that can be asked of a screen without changing it. This takes 246 of the 512 calls
     * that an object is good for, so a state to compare with is taken from an object of its own.
     */
    private static String state(DamageScreen screen) {
        StringBuilder all = new StringBuilder();
        for (int y = 0; y < 10; y++) {
            for (int x = 0; x < 12; x++) {
                all.append(screen.owner(x, y)).append(screen.dirty(x, y) == 1 ? '#' : '.');
            }
            all.append('\n');
        }
        for (int window = 0; window < 6; window++) {
            all.append(screen.visible(window)).append(' ');
        }
        return all.toString();
    }

    static void sameState(String what, DamageScreen unchanged, DamageScreen screen) {
        String before = state(unchanged);
        String now = state(screen);
        if (!now.equals(before)) {
            wrong++;
            System.out.println(what + " changed the screen from\n" + before + "\nto\n" + now);
        }
    }

    static void paintAll(DamageScreen screen) {
        for (int window = 0; window < 6; window++) {
            screen.paint(window);
        }
    }

    static void end() {
        if (wrong != 0) {
            System.out.println(wrong + " checks are not as due");
            System.exit(1);
        }
    }

    private static void sameRow(String what, String want, String got) {
        if (!want.equals(got)) {
            wrong++;
            System.out.println(what + ": got " + got + ", due is " + want);
        }
    }
}
