/**
 * All promises: long runs of calls, always the same ones, of which each answer and each pixel must
 * be that of PlainModel.
 */
public final class ModelTest {
    private static final int RUNS = 300;
    private static final int CALLS = 512;

    private static long seed;
    private static int wrong = 0;

    public static void main(String[] args) {
        for (int run = 1; run <= RUNS && wrong == 0; run++) {
            seed = run * 7919L;
            compareRun(run);
        }
        if (wrong != 0) {
            System.exit(1);
        }
    }

    // The calls that ask count as calls too, but do not change what later ones answer.
    private static void compareRun(int run) {
        DamageScreen screen = new DamageScreen();
        PlainModel model = new PlainModel();
        for (int call = 1; call <= CALLS && wrong == 0; call++) {
            String what = "run " + run + ", call " + call + ": " + compareCall(screen, model);
            compareState(what, screen, model);
        }
    }

    private static String compareCall(DamageScreen screen, PlainModel model) {
        int w = window();
        int a = number();
        int b = number();
        int c = below(20) == 0 ? below(2000) - 1000 : below(256);
        boolean on = below(2) == 0;
        switch (below(16)) {
            case 0:
            case 1:
                return same("make(" + w + ", " + c + ")", model.make(w, c), screen.make(w, c));
            case 2:
                if (below(3) != 0) {
                    return "nothing";
                }
                return same("destroy(" + w + ")", model.destroy(w), screen.destroy(w));
            case 3:
            case 4:
            case 5:
                return same("move(" + w + ", " + a + ", " + b + ")", model.move(w, a, b), screen.move(w, a, b));
            case 6:
            case 7:
                return same("size(" + w + ", " + c + ")", model.size(w, c), screen.size(w, c));
            case 8:
                return same("raise(" + w + ", " + on + ")", model.raise(w, on), screen.raise(w, on));
            case 9:
                return same("show(" + w + ", " + on + ")", model.show(w, on), screen.show(w, on));
            case 10:
                int d = below(16);
                int e = below(16);
                return same("spoil(" + w + ", " + d + ", " + e + ", " + c + ")", model.spoil(w, d, e, c), screen.spoil(w, d, e, c));
            case 11:
                return same("spoil(" + w + ", " + a + ", " + b + ", " + c + ")", model.spoil(w, a, b, c), screen.spoil(w, a, b, c));
            default:
                return same("paint(" + w + ")", model.paint(w), screen.paint(w));
        }
    }

    private static void compareState(String what, DamageScreen screen, PlainModel model) {
        for (int y = -1; y <= 10; y++) {
            for (int x = -1; x <= 12; x++) {
                same(what + ", then owner(" + x + ", " + y + ")", model.owner(x, y), screen.owner(x, y));
                same(what + ", then dirty(" + x + ", " + y + ")", model.dirty(x, y), screen.dirty(x, y));
            }
        }
        for (int window = -1; window <= 6; window++) {
            same(what + ", then visible(" + window + ")", model.visible(window), screen.visible(window));
        }
    }

    private static String same(String what, int want, int got) {
        if (want != got) {
            wrong++;
            System.out.println(what + " answered " + got + ", due is " + want);
        }
        return what;
    }

    private static int window() {
        return below(30) == 0 ? below(40) - 20 : below(6);
    }

    // Mostly near the screen's corner, so that windows stay in sight of each other.
    private static int number() {
        return below(4) == 0 ? below(35) - 17 : below(12) - 4;
    }

    private static int below(int bound) {
        seed = seed * 6364136223846793005L + 1442695040888963407L;
        return (int) ((seed >>> 33) % bound);
    }
}
