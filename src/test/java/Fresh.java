/** Hands out an object on which a text is laid, another one before its 512 calls are used up. */
final class Fresh {
    private static final int MOST_CALLS = 512;
    private static final int CALLS_TO_LAY = 3;

    private final String text;
    private SevenOnStrike x = null;
    private int left = 0;

    Fresh(String text) {
        this.text = text;
    }

    /** The object for the next call, one call each. */
    SevenOnStrike get() {
        if (left == 0) {
            x = Due.laid(text);
            left = MOST_CALLS - CALLS_TO_LAY - text.length();
        }
        left--;
        return x;
    }
}
