/** Short names of what Checks has, for the tests that stand below this. */
abstract class Checked {
    static final int NONE = Checks.NONE;
    static final Class<IndexOutOfBoundsException> INDEX = Checks.INDEX;
    static final Class<IllegalArgumentException> ARGUMENT = Checks.ARGUMENT;
    static final Class<IllegalStateException> STATE = Checks.STATE;
    static final Class<UnsupportedOperationException> UNSUPPORTED = Checks.UNSUPPORTED;
    static final Class<java.util.NoSuchElementException> NO_ELEMENT = Checks.NO_ELEMENT;

    static void same(String what, long want, long got) {
        Checks.same(what, want, got);
    }

    static void same(String what, boolean want, boolean got) {
        Checks.same(what, want, got);
    }

    static void same(String what, String want, String got) {
        Checks.same(what, want, got);
    }

    static void refuses(String what, Class<? extends RuntimeException> kind, Checks.Act act) {
        Checks.refuses(what, kind, act);
    }
}
