import java.util.ArrayList;
import java.util.List;
import java.util.function.ToIntFunction;

/** 'What it is': an object answers rightly up to its 512th call, whatever the calls before were. */
public final class LongUseTest {
    private static final int CALLS = 512;

    public static void main(String[] args) {
        raises("u", 2);
        raises("d", 2);
        raises("ud", 3);
        raises("uuudddd", 3);
        raises("u", CALLS);
        raises("d", CALLS);
        raises("uud", CALLS);
        raisesAlone(true);
        raisesAlone(false);
        makesAndDestroys();
        makesInFullness();
        movesToAndFro();
        paintsAndSpoils();
        refusedCalls();
        eachMethodAsTheLastCall();
        Check.end();
    }

    /** Three windows are raised or lowered in turn; after every so many calls the top one is asked for. */
    private static void raises(String directions, int askEvery) {
        DamageScreen screen = new DamageScreen();
        List<Integer> order = new ArrayList<>();
        for (int window = 1; window < 4; window++) {
            order.add(screen.make(0, 0x11));
        }
        for (int call = 4; call <= CALLS; call++) {
            if (call % askEvery == 0) {
                String what = "owner(0, 0) as call " + call + " among raises " + directions;
                Check.due(what, order.get(2), screen.owner(0, 0));
            } else {
                Integer window = call * 7 / 5 % 3 + 1;
                boolean up = directions.charAt(call % directions.length()) == 'u';
                screen.raise(window, up);
                order.remove(window);
                order.add(up ? 2 : 0, window);
            }
        }
    }

    /** One window, 510 raises of it, and a last call. */
    private static void raisesAlone(boolean up) {
        String after = " as the 512th call, after 510 of raise(1, " + up + ")";
        Check.due("visible(1)" + after, 6, raised(up).visible(1));
        Check.due("owner(2, 1)" + after, 1, raised(up).owner(2, 1));
        Check.due("dirty(2, 1)" + after, 1, raised(up).dirty(2, 1));
        Check.due("paint(1)" + after, 6, raised(up).paint(1));
        Check.due("spoil(1, 0, 0, 255)" + after, 0, raised(up).spoil(1, 0, 0, 255));
        Check.due("make(0, 0)" + after, 2, raised(up).make(0, 0));
        Check.due("destroy(1)" + after, 1, raised(up).destroy(1));
        Check.due("move(1, 1, 1)" + after, 0, raised(up).move(1, 1, 1));
        Check.due("size(1, 0)" + after, 0, raised(up).size(1, 0));
        Check.due("raise(1, false)" + after, 0, raised(up).raise(1, false));
        Check.due("show(1, false)" + after, 0, raised(up).show(1, false));
    }

    private static DamageScreen raised(boolean up) {
        DamageScreen screen = new DamageScreen();
        screen.make(0, 0x23);
        for (int call = 2; call < CALLS; call++) {
            screen.raise(1, up);
        }
        return screen;
    }

    private static void makesAndDestroys() {
        DamageScreen screen = new DamageScreen();
        screen.make(0, 0x22);
        screen.paint(1);
        for (int call = 3; call + 3 <= CALLS; call += 4) {
            Check.due("make as call " + call, 2, screen.make(call % 8 == 3 ? 0 : 1, 0x11));
            Check.due("owner(0, 0) as call " + (call + 1), 2, screen.owner(0, 0));
            Check.due("destroy(2) as call " + (call + 2), 1, screen.destroy(2));
            Check.due("paint(1) as call " + (call + 3), 1, screen.paint(1));
        }
    }

    private static void makesInFullness() {
        DamageScreen screen = Screens.full();
        for (int call = 16; call <= CALLS; call++) {
            Check.due("make as call " + call, -1, screen.make(call % 6, call));
        }
        DamageScreen other = Screens.full();
        for (int call = 16; call < CALLS - 1; call++) {
            other.make(call % 6, call);
        }
        Check.due("destroy(1) as the 511th call", 4, other.destroy(1));
        Check.due("make as the 512th call", 1, other.make(5, 0));
    }

    private static void movesToAndFro() {
        DamageScreen screen = new DamageScreen();
        screen.make(0, 0x22);
        screen.paint(1);
        for (int call = 3; call + 1 < CALLS; call += 2) {
            Check.due("move as call " + call, 0, screen.move(1, 10, 8));
            Check.due("move as call " + (call + 1), 0, screen.move(1, 0, 0));
        }
        screen.move(1, 10, 8);
        Check.due("the 512th call, paint(1)", 0, screen.paint(1));
    }

    private static void paintsAndSpoils() {
        DamageScreen screen = new DamageScreen();
        for (int call = 1; call + 1 <= CALLS; call += 2) {
            Check.due("paint(0) as call " + call, 120, screen.paint(0));
            Check.due("spoil(0) as call " + (call + 1), 120, screen.spoil(0, 0, 0, 0xFF));
        }
    }

    private static void refusedCalls() {
        DamageScreen screen = new DamageScreen();
        screen.paint(0);
        for (int call = 2; call < CALLS; call++) {
            Check.due("move(0, 1, 1) as call " + call, -1, screen.move(0, 1, 1));
        }
        Check.due("the 512th call, visible(0)", 120, screen.visible(0));
        DamageScreen other = new DamageScreen();
        for (int call = 1; call < CALLS; call++) {
            Check.due("visible(6) as call " + call, -1, other.visible(6));
        }
        Check.due("the 512th call, paint(0)", 120, other.paint(0));
    }

    private static void eachMethodAsTheLastCall() {
        eachMethodAsTheLastCall("raise(3, true)", s -> s.raise(3, true));
        eachMethodAsTheLastCall("raise(1, false)", s -> s.raise(1, false));
        eachMethodAsTheLastCall("move(1, 1, 1)", s -> s.move(1, 1, 1));
        eachMethodAsTheLastCall("size(1, 0x66)", s -> s.size(1, 0x66));
        eachMethodAsTheLastCall("show(1, true)", s -> s.show(1, true));
        eachMethodAsTheLastCall("paint(3)", s -> s.paint(3));
        eachMethodAsTheLastCall("spoil(2, 0, 0, 255)", s -> s.spoil(2, 0, 0, 255));
        eachMethodAsTheLastCall("destroy(0)", s -> s.destroy(0));
        eachMethodAsTheLastCall("visible(1)", s -> s.visible(1));
    }

    private static void eachMethodAsTheLastCall(String what, ToIntFunction<DamageScreen> call) {
        String after = " as the 512th call, after many of " + what;
        Check.due("make" + after, 4, usedUpToTheLastCall(call).make(0, 0x22));
        Check.due("destroy" + after, 2, usedUpToTheLastCall(call).destroy(1));
        Check.due("move" + after, 0, usedUpToTheLastCall(call).move(1, 15, -15));
        Check.due("size" + after, 0, usedUpToTheLastCall(call).size(2, 0));
        Check.due("raise" + after, 0, usedUpToTheLastCall(call).raise(1, true));
        Check.due("show" + after, 0, usedUpToTheLastCall(call).show(1, false));
        Check.due("paint" + after, 4, usedUpToTheLastCall(call).paint(2));
        Check.due("spoil" + after, 8, usedUpToTheLastCall(call).spoil(3, 0, 0, 0x42));
        Check.due("owner" + after, 3, usedUpToTheLastCall(call).owner(11, 6));
        Check.due("dirty" + after, 1, usedUpToTheLastCall(call).dirty(6, 2));
        Check.due("visible" + after, 4, usedUpToTheLastCall(call).visible(2));
        Check.due("a refused one" + after, -1, usedUpToTheLastCall(call).size(4, 0));
    }

    /** The thirteen calls of three, and 498 more, which change nothing. */
    private static DamageScreen usedUpToTheLastCall(ToIntFunction<DamageScreen> call) {
        DamageScreen screen = Screens.three();
        for (int number = 14; number < CALLS; number++) {
            call.applyAsInt(screen);
        }
        return screen;
    }
}
