/**
 * Rule 7 of LANGUAGE.md: no call throws, for any arguments in any state, also after the 512th call,
 * where the answers are free and so are not looked at.
 */
public final class AnyArgumentsTest {
    private static final int[] NUMBERS = {
        Integer.MIN_VALUE, Integer.MIN_VALUE + 1, -65536, -257, -256, -17, -16, -15, -1, 0, 1, 2, 3, 4, 5, 6,
        9, 10, 11, 12, 15, 16, 17, 255, 256, 65536, Integer.MAX_VALUE - 1, Integer.MAX_VALUE,
    };

    private static long seed = 1;

    public static void main(String[] args) {
        DamageScreen screen = new DamageScreen();
        for (int call = 0; call < 200000; call++) {
            anyCall(screen);
        }
    }

    private static void anyCall(DamageScreen screen) {
        int window = below(3) == 0 ? anyNumber() : below(6);
        switch (below(11)) {
            case 0: screen.make(window, anyNumber()); break;
            case 1: screen.destroy(window); break;
            case 2: screen.move(window, anyNumber(), anyNumber()); break;
            case 3: screen.size(window, anyNumber()); break;
            case 4: screen.raise(window, below(2) == 0); break;
            case 5: screen.show(window, below(2) == 0); break;
            case 6: screen.paint(window); break;
            case 7: screen.spoil(window, anyNumber(), anyNumber(), anyNumber()); break;
            case 8: screen.owner(anyNumber(), anyNumber()); break;
            case 9: screen.dirty(anyNumber(), anyNumber()); break;
            default: screen.visible(window); break;
        }
    }

    private static int anyNumber() {
        return NUMBERS[below(NUMBERS.length)];
    }

    private static int below(int bound) {
        seed = seed * 6364136223846793005L + 1442695040888963407L;
        return (int) ((seed >>> 33) % bound);
    }
}
