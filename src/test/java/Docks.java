import java.util.NoSuchElementException;

/** Docks that tests begin with, and the exceptions by short names. */
final class Docks {
    static final Class<IllegalArgumentException> ILLEGAL = IllegalArgumentException.class;
    static final Class<IndexOutOfBoundsException> OUTSIDE = IndexOutOfBoundsException.class;
    static final Class<UnsupportedOperationException> TOO_MANY = UnsupportedOperationException.class;
    static final Class<NoSuchElementException> NO_SUCH = NoSuchElementException.class;
    static final int[] FIRST_AGREEMENT = {4, 12, 2, 10, 50, 2, 0, 10, 10, 10, 10};

    private Docks() {
    }

    /** So many men with skill 0, and a ship without hatches. */
    static DockCall with(int men, String text) {
        DockCall dock = new DockCall();
        for (int i = 0; i < men; i++) {
            dock.man(1);
        }
        Texts.agree(dock, text);
        dock.ship();
        return dock;
    }

    /** The same, and a wet hatch of skill 0 with so many tons. */
    static DockCall with(int men, String text, int tons) {
        DockCall dock = with(men, text);
        dock.hatch(0, tons, 0, false);
        return dock;
    }

    static void calls(DockCall dock, int times) {
        for (int i = 0; i < times; i++) {
            dock.call(0, 0);
        }
    }
}
