/**
 * All promises: many runs of calls, always the same ones, of which each answer must be that of
 * PlainModel. No object is called more often than the 512 times that the document speaks of.
 */
public final class ModelTest {
    private static final int CALLS = 512;
    private static final int STATE_CALLS = 14 * 12 * 2 + 8;
    private static final int SHORT_RUNS = 3000;
    private static final int LONG_RUNS = 1000;

    private static long seed;
    private static int wrong = 0;

    public static void main(String[] args) {
        for (int run = 1; run <= SHORT_RUNS && wrong == 0; run++) {
            shortRun(run);
        }
        for (int run = 1; run <= LONG_RUNS && wrong == 0; run++) {
            longRun(run);
        }
        if (wrong != 0) {
            System.exit(1);
        }
    }

    /** Some calls that change, and then every pixel and window. */
    private static void shortRun(int run) {
        seed = run * 7919L;
        DamageScreen screen = new DamageScreen();
        PlainModel model = new PlainModel();
        int calls = run % (CALLS - STATE_CALLS + 1);
        for (int call = 1; call <= calls; call++) {
            change("short run " + run + ", call " + call + ": ", screen, model);
        }
        compareState("short run " + run + ", after " + calls + " calls: ", screen, model);
    }

    /** As many calls as an object is good for, those that ask among those that change. */
    private static void longRun(int run) {
        seed = run * 104729L;
        DamageScreen screen = new DamageScreen();
        PlainModel model = new PlainModel();
        for (int call = 1; call <= CALLS; call++) {
            String where = "long run " + run + ", call " + call + ": ";
            if (below(3) == 0) {
                ask(where, screen, model);
            } else {
                change(where, screen, model);
            }
        }
    }

    private static void change(String where, DamageScreen screen, PlainModel model) {
        int w = window();
        int a = offset();
        int b = offset();
        int c = below(20) == 0 ? below(2000) - 1000 : below(256);
        int x = below(20) == 0 ? below(40) - 20 : below(16);
        int y = below(20) == 0 ? below(40) - 20 : below(16);
        boolean on = below(2) == 0;
        switch (below(24)) {
            case 0:
            case 1:
            case 2:
                same(where + "make(" + w + ", " + c + ")", model.make(w, c), screen.make(w, c));
                break;
            case 3:
                same(where + "destroy(" + w + ")", model.destroy(w), screen.destroy(w));
                break;
            case 4:
            case 5:
            case 6:
            case 7:
            case 8:
                same(where + "move(" + w + ", " + a + ", " + b + ")", model.move(w, a, b), screen.move(w, a, b));
                break;
            case 9:
            case 10:
            case 11:
                same(where + "size(" + w + ", " + c + ")", model.size(w, c), screen.size(w, c));
                break;
            case 12:
            case 13:
                same(where + "raise(" + w + ", " + on + ")", model.raise(w, on), screen.raise(w, on));
                break;
            case 14:
            case 15:
                same(where + "show(" + w + ", " + on + ")", model.show(w, on), screen.show(w, on));
                break;
            case 16:
            case 17:
                same(where + "spoil(" + w + ", " + x + ", " + y + ", " + c + ")",
                    model.spoil(w, x, y, c), screen.spoil(w, x, y, c));
                break;
            default:
                same(where + "paint(" + w + ")", model.paint(w), screen.paint(w));
                break;
        }
    }

    private static void ask(String where, DamageScreen screen, PlainModel model) {
        int x = below(14) - 1;
        int y = below(12) - 1;
        int w = window();
        switch (below(5)) {
            case 0:
            case 1:
                same(where + "owner(" + x + ", " + y + ")", model.owner(x, y), screen.owner(x, y));
                break;
            case 2:
            case 3:
                same(where + "dirty(" + x + ", " + y + ")", model.dirty(x, y), screen.dirty(x, y));
                break;
            default:
                same(where + "visible(" + w + ")", model.visible(w), screen.visible(w));
                break;
        }
    }

    private static void compareState(String where, DamageScreen screen, PlainModel model) {
        for (int y = -1; y <= 10; y++) {
            for (int x = -1; x <= 12; x++) {
                same(where + "owner(" + x + ", " + y + ")", model.owner(x, y), screen.owner(x, y));
                same(where + "dirty(" + x + ", " + y + ")", model.dirty(x, y), screen.dirty(x, y));
            }
        }
        for (int window = -1; window <= 6; window++) {
            same(where + "visible(" + window + ")", model.visible(window), screen.visible(window));
        }
    }

    private static void same(String what, int want, int got) {
        if (want != got) {
            wrong++;
            System.out.println(what + " answered " + got + ", due is " + want);
        }
    }

    private static int window() {
        return below(30) == 0 ? below(40) - 20 : below(6);
    }

    // Mostly near the screen's corner, so that windows stay in sight of each other.
    private static int offset() {
        return below(4) == 0 ? below(35) - 17 : below(12) - 4;
    }

    private static int below(int bound) {
        seed = seed * 6364136223846793005L + 1442695040888963407L;
        return (int) ((seed >>> 33) % bound);
    }
}
