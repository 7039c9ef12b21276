import java.util.List;
import java.util.function.Supplier;
import java.util.function.ToIntFunction;

/** Compares answers with those that are due, and ends the test with exit code 1 if one differs. */
final class Check {
    /** Numbers that are no window's; most of them become one if bits are cut off or a sign is lost. */
    static final int[] NO_WINDOWS = {
        -1, -2, -5, -6, -8, -255, -256, -65535, 6, 7, 8, 9, 15, 16, 17, 32, 33, 128, 255, 256, 257,
        65536, 65537, Integer.MIN_VALUE, Integer.MIN_VALUE + 1, Integer.MAX_VALUE, Integer.MAX_VALUE - 1,
    };

    private static int wrong = 0;

    private Check() {
    }

    static void due(String what, long want, long got) {
        if (got != want) {
            wrong++;
            System.out.println(what + " answered " + got + ", due is " + want);
        }
    }

    static void isTrue(String what, boolean holds) {
        if (!holds) {
            wrong++;
            System.out.println("does not hold: " + what);
        }
    }

    /** The screen's owners, a row of digits for each row of pixels. */
    static void owners(String what, DamageScreen screen, String... rows) {
        for (int y = 0; y < 10; y++) {
            StringBuilder got = new StringBuilder();
            for (int x = 0; x < 12; x++) {
                got.append(screen.owner(x, y));
            }
            same(what + ", owners of row " + y, rows[y], got.toString());
        }
    }

    /** The screen's dirt, a row for each row of pixels: '#' is dirty, '.' is clean. */
    static void dirt(String what, DamageScreen screen, String... rows) {
        for (int y = 0; y < 10; y++) {
            StringBuilder got = new StringBuilder();
            for (int x = 0; x < 12; x++) {
                got.append(screen.dirty(x, y) == 1 ? '#' : '.');
            }
            same(what + ", dirt of row " + y, rows[y], got.toString());
        }
    }

    /**
     * The answers of all asking methods. This takes 246 of the 512 calls that an object is good for:
     * it can be taken twice of an object that was made by no more than some twenty calls.
     */
    private static String state(DamageScreen screen) {
        StringBuilder all = new StringBuilder();
        for (int y = 0; y < 10; y++) {
            for (int x = 0; x < 12; x++) {
                all.append(screen.owner(x, y)).append(screen.dirty(x, y) == 1 ? '#' : '.');
            }
            all.append('\n');
        }
        for (int window = 0; window < 6; window++) {
            all.append(screen.visible(window)).append(' ');
        }
        return all.toString();
    }

    static void sameState(String what, DamageScreen unchanged, DamageScreen screen) {
        same(what + " changed the screen", state(unchanged), state(screen));
    }

    /** The call is refused on each of these screens: it answers -1 and changes nothing. */
    static void refused(String what, List<Supplier<DamageScreen>> screens, ToIntFunction<DamageScreen> call) {
        for (int number = 0; number < screens.size(); number++) {
            answersAndKeeps(what + " on screen " + number, -1, screens.get(number), call);
        }
    }

    /** The call has the answer that is due, and changes nothing, be it at once or later. */
    static void answersAndKeeps(String what, int want, Supplier<DamageScreen> made, ToIntFunction<DamageScreen> call) {
        DamageScreen screen = made.get();
        String before = state(screen);
        due(what, want, call.applyAsInt(screen));
        same(what + " changed the screen", before, state(screen));
        nothingShowsLater(what, made, call);
    }

    // What is hidden or covered can't be asked for: it comes to light by further calls, which are
    // made once after the call and once without it.
    private static void nothingShowsLater(String what, Supplier<DamageScreen> made, ToIntFunction<DamageScreen> call) {
        for (int shown = 0; shown < 64; shown += 2) {
            int windows = shown;
            String later = what + ", then windows " + Integer.toBinaryString(windows) + " shown";
            sameLater(later, made, call, s -> showSome(s, windows));
        }
        for (int number = 1; number < 6; number++) {
            int window = number;
            sameLater(what + ", then raise(" + window + ", true)", made, call, s -> s.raise(window, true));
            sameLater(what + ", then raise(" + window + ", false)", made, call, s -> s.raise(window, false));
            sameLater(what + ", then destroy(" + window + ")", made, call, s -> s.destroy(window));
        }
    }

    private static void sameLater(String what, Supplier<DamageScreen> made, ToIntFunction<DamageScreen> call,
            ToIntFunction<DamageScreen> later) {
        DamageScreen without = made.get();
        DamageScreen with = made.get();
        call.applyAsInt(with);
        due(what, later.applyAsInt(without), later.applyAsInt(with));
        same(what + ", state", state(without), state(with));
        same(what + ", make and destroy", makeAndDestroy(without), makeAndDestroy(with));
    }

    private static int showSome(DamageScreen screen, int windows) {
        int answers = 0;
        for (int window = 1; window < 6; window++) {
            answers += screen.show(window, (windows >> window & 1) == 1);
        }
        return answers;
    }

    private static String makeAndDestroy(DamageScreen screen) {
        String answers = screen.make(0, 0x53) + " ";
        for (int window = 5; window > 0; window--) {
            answers += screen.destroy(window) + " ";
        }
        return answers;
    }

    static void paintAll(DamageScreen screen) {
        for (int window = 0; window < 6; window++) {
            screen.paint(window);
        }
    }

    static void end() {
        if (wrong != 0) {
            System.out.println(wrong + " checks are not as due");
            System.exit(1);
        }
    }

    private static void same(String what, String want, String got) {
        if (!want.equals(got)) {
            wrong++;
            System.out.println(what + ": got\n" + got + "\ndue is\n" + want);
        }
    }
}
