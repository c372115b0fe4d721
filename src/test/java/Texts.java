/** Feeds a text to the tape. */
final class Texts {
    private Texts() {
    }

    /** Behind what the tape has already, which must be told; false if it has no room. */
    static boolean feed(DockCall dock, int has, String text) {
        for (int at = 0; at < text.length(); at += 20) {
            if (dock.feed(number(text, at), number(text, at + 4), number(text, at + 8),
                    number(text, at + 12), number(text, at + 16)) == DockCall.NONE) {
                return false;
            }
        }
        return dock.end(has + text.length());
    }

    static int agree(DockCall dock, String text) {
        dock.end(0);
        if (!feed(dock, 0, text)) {
            throw new IllegalStateException("the text has no room: " + text);
        }
        return dock.agree();
    }

    private static int number(String text, int at) {
        int number = 0;
        for (int i = at; i < at + 4; i++) {
            number = number << 8 | (i < text.length() ? text.charAt(i) & 255 : 'x');
        }
        return number;
    }
}
