/** The boundaries of promises 1 to 3: a new object, feed, end. */
public final class TapeEdgesTest {
    private static final int BLANKS = 0x20202020;
    private static final String LONG_TEXT = "pay 7;".repeat(63);

    private final Check check = new Check("edges of the tape");

    public static void main(String[] args) {
        TapeEdgesTest test = new TapeEdgesTest();
        test.newHasNone();
        test.newAgreement();
        test.twentyBytesCome();
        test.highestFirst();
        test.moreThanFourHundred();
        test.noneComeIfRefused();
        test.firstBytesAlone();
        test.fewerBytes();
        test.belowZero();
        test.nothingHappensAtFalse();
        test.check.end();
    }

    private void newHasNone() {
        check.sentence("No men, no SHIPS");
        DockCall dock = new DockCall();
        check.is("count(0)", 0, dock.count(0));
        check.is("count(1)", 0, dock.count(1));
        check.throwsIt("look(0, 0)", Docks.OUTSIDE, () -> dock.look(0, 0));
        check.throwsIt("state(0, 0)", Docks.OUTSIDE, () -> dock.state(0, 0));
        check.is("the first card", 0, dock.man(1));
        check.is("the first ship", 0, dock.ship());
        check.is("men of another object", 0, new DockCall().count(0));
        check.is("ships of another object", 0, new DockCall().count(1));
    }

    private void newAgreement() {
        check.sentence("the AGREEMENT as told");
        DockCall dock = new DockCall();
        for (int what = 0; what <= 10; what++) {
            check.is("says(" + what + ")", Docks.FIRST_AGREEMENT[what], dock.says(what));
        }
        Texts.agree(dock, "gang 1;rate 0 1;cranes 1;bar 1;pay 1;rain 1;broken 1;first tons");
        DockCall another = new DockCall();
        for (int what = 0; what <= 10; what++) {
            check.is("says(" + what + ") of another", Docks.FIRST_AGREEMENT[what], another.says(what));
        }
    }

    private void twentyBytesCome() {
        check.sentence("Twenty bytes come behind the TAPE: how many it has");
        DockCall dock = new DockCall();
        check.is("behind none", 20, dock.feed(0, 0, 0, 0, 0));
        check.is("behind 20", 40, dock.feed(0, 0, 0, 0, 0));
        check.is("end(19)", true, dock.end(19));
        check.is("behind 19", 39, dock.feed(0, 0, 0, 0, 0));
        check.is("end(1)", true, dock.end(1));
        check.is("behind 1", 21, dock.feed(0, 0, 0, 0, 0));
        check.is("end(0)", true, dock.end(0));
        check.is("behind none again", 20, dock.feed(0, 0, 0, 0, 0));
    }

    /** The one byte that is no blank tells by fault() where it stands. */
    private void highestFirst() {
        check.sentence("of each number the highest first");
        int[] odd = {0x01, 0x7f, 0x80, 0xff};
        for (int at = 0; at < 20; at++) {
            for (int value : odd) {
                int[] numbers = {BLANKS, BLANKS, BLANKS, BLANKS, BLANKS};
                int shift = 24 - 8 * (at % 4);
                numbers[at / 4] = numbers[at / 4] & ~(255 << shift) | value << shift;
                DockCall dock = new DockCall();
                dock.feed(numbers[0], numbers[1], numbers[2], numbers[3], numbers[4]);
                check.throwsIt("agree()", Docks.ILLEGAL, dock::agree);
                check.is("place of the byte " + value, at, dock.fault());
            }
        }
    }

    private DockCall fed(int bytes) {
        DockCall dock = new DockCall();
        for (int has = 0; has < bytes; has += 20) {
            check.is("feed behind " + has, has + 20, dock.feed(BLANKS, BLANKS, BLANKS, BLANKS, BLANKS));
        }
        check.is("end(" + bytes + ")", true, dock.end(bytes));
        return dock;
    }

    private void moreThanFourHundred() {
        check.sentence("NONE if it would have more than 400");
        check.is("379 and 20", 399, fed(379).feed(0, 0, 0, 0, 0));
        check.is("380 and 20", 400, fed(380).feed(0, 0, 0, 0, 0));
        check.is("381 and 20", DockCall.NONE, fed(381).feed(0, 0, 0, 0, 0));
        check.is("399 and 20", DockCall.NONE, fed(399).feed(0, 0, 0, 0, 0));
        check.is("400 and 20", DockCall.NONE, fed(400).feed(0, 0, 0, 0, 0));
    }

    private void noneComeIfRefused() {
        check.sentence("and none come");
        for (int more = 3; more <= 22; more++) {
            DockCall dock = new DockCall();
            String text = LONG_TEXT + " ".repeat(more - 1) + "x";
            check.is("the text is fed", true, Texts.feed(dock, 0, text));
            check.is("feed", DockCall.NONE, dock.feed(0, 0, 0, 0, 0));
            check.is("end() one above", false, dock.end(text.length() + 1));
            check.throwsIt("agree()", Docks.ILLEGAL, dock::agree);
            check.is("the last byte stands", text.length() - 1, dock.fault());
        }
    }

    private void firstBytesAlone() {
        check.sentence("The TAPE has its first n bytes alone: true");
        String text = "gang 12345";
        int[] clauses = {-1, -1, -1, -1, -1, -1, 1, -1, -1, -1, -1};
        int[] faults = {0, 0, 0, 0, 4, 5, -1, 5, 5, 5, 5};
        for (int n = 0; n <= text.length(); n++) {
            DockCall dock = new DockCall();
            Texts.feed(dock, 0, text);
            check.is("end(" + n + ")", true, dock.end(n));
            if (clauses[n] == 1) {
                check.is("agree() of " + n, 1, dock.agree());
            } else {
                check.throwsIt("agree() of " + n, Docks.ILLEGAL, dock::agree);
            }
            check.is("fault() of " + n, faults[n], dock.fault());
        }
    }

    private void fewerBytes() {
        check.sentence("false if it has fewer");
        DockCall dock = new DockCall();
        check.is("end(0) of 0", true, dock.end(0));
        check.is("end(1) of 0", false, dock.end(1));
        dock.feed(0, 0, 0, 0, 0);
        check.is("end(21) of 20", false, dock.end(21));
        check.is("end(MAX) of 20", false, dock.end(Integer.MAX_VALUE));
        check.is("end(20) of 20", true, dock.end(20));
        check.is("end(19) of 20", true, dock.end(19));
        check.is("end(20) of 19", false, dock.end(20));
        DockCall full = fed(400);
        check.is("end(401) of 400", false, full.end(401));
        check.is("end(400) of 400", true, full.end(400));
        check.is("end(399) of 400", true, full.end(399));
        check.is("end(400) of 399", false, full.end(400));
    }

    private void belowZero() {
        check.sentence("false if n is below 0");
        DockCall dock = new DockCall();
        check.is("end(-1) of 0", false, dock.end(-1));
        dock.feed(0, 0, 0, 0, 0);
        check.is("end(MIN)", false, dock.end(Integer.MIN_VALUE));
        check.is("end(-20)", false, dock.end(-20));
        check.is("end(-1)", false, dock.end(-1));
        check.is("nothing happened", true, dock.end(20));
        check.is("end(0)", true, dock.end(0));
        check.is("none is left", false, dock.end(1));
    }

    private void nothingHappensAtFalse() {
        check.sentence("false, and nothing happens");
        for (int n : new int[] {-1, Integer.MIN_VALUE, 11, 12, 400, 401, Integer.MAX_VALUE}) {
            DockCall dock = new DockCall();
            Texts.feed(dock, 0, "bar 3;pay 9");
            check.is("end(" + n + ")", n == 11, dock.end(n));
            check.is("agree() behind end(" + n + ")", 2, dock.agree());
            check.is("says(2)", 3, dock.says(2));
            check.is("says(3)", 9, dock.says(3));
        }
    }
}
