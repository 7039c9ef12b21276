/** Promise 1: a new object has the base alone, and all pixels are dirty. */
public final class NewObjectTest {
    public static void main(String[] args) {
        DamageScreen screen = new DamageScreen();
        for (int y = 0; y < 10; y++) {
            for (int x = 0; x < 12; x++) {
                Check.due("owner(" + x + ", " + y + ")", 0, screen.owner(x, y));
                Check.due("dirty(" + x + ", " + y + ")", 1, screen.dirty(x, y));
            }
        }
        Check.due("visible(0)", 120, screen.visible(0));
        for (int window = 1; window < 6; window++) {
            Check.due("visible(" + window + ")", -1, screen.visible(window));
        }
        Check.due("paint(0)", 120, screen.paint(0));
        objectsAreApart();
        Check.end();
    }

    private static void objectsAreApart() {
        DamageScreen one = new DamageScreen();
        one.make(0, 0x33);
        Check.paintAll(one);
        DamageScreen other = new DamageScreen();
        Check.due("visible(1) of another object", -1, other.visible(1));
        Check.due("paint(0) of another object", 120, other.paint(0));
    }
}
