/** The boundaries of promises 7 to 9 and of the agreement's text: agree, fault, says. */
public final class TextEdgesTest {
    private static final String[] WORDS = {"gang", "cranes", "bar", "pay", "rain", "broken", "first", "rate 0",
        "rate 1", "rate 2", "rate 3"};
    private static final int[] LEAST = {1, 1, 0, 0, 0, 0, 0, 1, 1, 1, 1};
    private static final int[] MOST = {8, 12, 20, 1000, 100, 4, 0, 500, 500, 500, 500};
    private static final int FIRST = 6;
    private static final int BLANKS = 0x20202020;
    private static final String[] ORDERS = {"waiting", "tons", "number"};

    private final Check check = new Check("edges of the text");

    public static void main(String[] args) {
        TextEdgesTest test = new TextEdgesTest();
        test.numbersOfClauses();
        test.skillOfRate();
        test.orders();
        test.digits();
        test.signsBesideDigits();
        test.signsBesideLetters();
        test.wordsAsLongAsLettersGoOn();
        test.blanks();
        test.otherBytesAreNoBlanks();
        test.clausesAndSemicolons();
        test.howManyClauses();
        test.notToldStays();
        test.laterCounts();
        test.moreMustCome();
        test.firstWrongThing();
        test.usesTheTapeUp();
        test.allStays();
        test.faultOfTheLatest();
        test.anotherWhat();
        test.check.end();
    }

    private void right(String text, int clauses, int what, int says) {
        DockCall dock = new DockCall();
        check.same("agree() of '" + text + "'", clauses, Check.answerOf(() -> Texts.agree(dock, text)));
        check.is("fault() of '" + text + "'", DockCall.NONE, dock.fault());
        for (int other = 0; other <= 10; other++) {
            check.is("says(" + other + ") by '" + text + "'", other == what ? says : Docks.FIRST_AGREEMENT[other],
                dock.says(other));
        }
    }

    private void wrong(String text, int fault) {
        DockCall dock = new DockCall();
        check.throwsIt("agree() of '" + text + "'", Docks.ILLEGAL, () -> Texts.agree(dock, text));
        check.is("fault() of '" + text + "'", fault, dock.fault());
        for (int what = 0; what <= 10; what++) {
            check.is("says(" + what + ") by '" + text + "'", Docks.FIRST_AGREEMENT[what], dock.says(what));
        }
    }

    private void numbersOfClauses() {
        check.sentence("GANG 1 to 8, RATE 1 to 500, CRANES 1 to 12, BAR 0 to 20, PAY 0 to 1000, RAIN 0 to 100, "
            + "BROKEN 0 to 4");
        for (int what = 0; what <= 10; what++) {
            if (what == FIRST) {
                continue;
            }
            int begin = WORDS[what].length() + 1;
            for (int value = Math.max(0, LEAST[what] - 1); value <= MOST[what] + 2; value++) {
                String text = WORDS[what] + " " + value;
                if (value >= LEAST[what] && value <= MOST[what]) {
                    right(text, 1, what, value);
                } else {
                    wrong(text, begin);
                }
            }
            wrong(WORDS[what] + " 9999", begin);
            wrong(WORDS[what] + " -1", begin);
        }
    }

    private void skillOfRate() {
        check.sentence("rate NUMBER NUMBER (a SKILL, its RATE)");
        for (int skill = 0; skill <= 3; skill++) {
            right("rate " + skill + " 77", 1, 7 + skill, 77);
            right("rate 000" + skill + " 77", 1, 7 + skill, 77);
        }
        wrong("rate 4 77", 5);
        wrong("rate 5 77", 5);
        wrong("rate 10 77", 5);
        wrong("rate 9999 77", 5);
        wrong("rate 4 501", 5);
        wrong("rate 3 501", 7);
        wrong("rate 3 0", 7);
        wrong("rate -1 77", 5);
    }

    private void orders() {
        check.sentence("first waiting | first tons | first number");
        for (int order = 0; order <= 2; order++) {
            right("first " + ORDERS[order], 1, FIRST, order);
            wrong("first " + ORDERS[order] + "s", 6);
            wrong("first x" + ORDERS[order].substring(1), 6);
            wrong("first " + ORDERS[order].substring(1), 6);
            wrong("first " + ORDERS[order].substring(0, ORDERS[order].length() - 1), 6);
            wrong(ORDERS[order], 0);
            wrong("first" + ORDERS[order], 0);
            wrong("first " + ORDERS[order] + " " + ORDERS[order], 7 + ORDERS[order].length());
            wrong("first " + ORDERS[order] + " 1", 7 + ORDERS[order].length());
        }
        wrong("first 0", 6);
        wrong("first first", 6);
        wrong("first Tons", 6);
    }

    private void digits() {
        check.sentence("A NUMBER: 1 to 4 digits");
        right("pay 7", 1, 3, 7);
        right("pay 70", 1, 3, 70);
        right("pay 700", 1, 3, 700);
        right("pay 1000", 1, 3, 1000);
        right("pay 0007", 1, 3, 7);
        right("pay 0000", 1, 3, 0);
        wrong("pay 00007", 4);
        wrong("pay 00000", 4);
        wrong("pay 000007", 4);
        wrong("pay 10000", 4);
        wrong("pay 4294967297", 4);
        wrong("pay 18446744073709551617", 4);
        wrong("pay ;", 4);
        wrong("pay", 3);
        right("rate 0003 0500", 1, 10, 500);
        wrong("rate 00003 0500", 5);
        wrong("rate 0003 00500", 10);
        wrong("rate  3", 7);
        wrong("pay 0007 0", 9);
        wrong("pay " + "0".repeat(396), 4);
    }

    private void signsBesideDigits() {
        check.sentence("digits are 48 to 57");
        right("pay 90", 1, 3, 90);
        right("pay 09", 1, 3, 9);
        for (String sign : new String[] {"/", ":", ".", "-", "+", "\u00b2"}) {
            wrong("pay " + sign, 4);
            wrong("pay " + sign + "1", 4);
            wrong("pay 1" + sign, 5);
            wrong("pay 1" + sign + "1", 5);
        }
    }

    private void signsBesideLetters() {
        check.sentence("Words are as long as a to z go on");
        for (String sign : new String[] {"`", "{", "@", "[", "A", "Z", "_", "\u00e1", "\u00df", "\0", "\u00ff"}) {
            wrong(sign + "gang 4", 0);
            wrong("gang" + sign + "4", 4);
            wrong("gang" + sign + " 4", 4);
            wrong("gang " + sign, 5);
            wrong("first " + sign + "tons", 6);
            wrong("first tons" + sign, 10);
        }
        for (char letter : new char[] {'a', 'b', 'y', 'z'}) {
            wrong(letter + "gang 4", 0);
            wrong("gang" + letter + " 4", 0);
            wrong("gang 4" + letter, 6);
            wrong("first tons" + letter, 6);
            wrong(String.valueOf(letter), 0);
        }
    }

    private void wordsAsLongAsLettersGoOn() {
        check.sentence("a word that is none");
        for (int what = 0; what < FIRST; what++) {
            String word = WORDS[what];
            for (int length = 1; length < word.length(); length++) {
                wrong(word.substring(0, length) + " 1", 0);
                wrong(word.substring(length) + " 1", 0);
                wrong(word.substring(0, length) + " " + word.substring(length) + " 1", 0);
            }
            for (int at = 0; at < word.length(); at++) {
                wrong(word.substring(0, at) + "x" + word.substring(at + 1) + " 1", 0);
            }
            wrong(word + word + " 1", 0);
            wrong(word.toUpperCase() + " 1", 0);
            wrong("bar 1;" + word + "x 1", 6);
        }
        wrong("xate 0 1", 0);
        wrong("ratx 0 1", 0);
        wrong("xirst tons", 0);
        wrong("firsx tons", 0);
        wrong("rat 0 1", 0);
        wrong("rates 0 1", 0);
        wrong("firs tons", 0);
        wrong("firsts tons", 0);
    }

    private void blanks() {
        check.sentence("between all there may be blanks (32), also ahead and behind");
        right("gang5", 1, 0, 5);
        right("gang 5", 1, 0, 5);
        right("gang   5", 1, 0, 5);
        right(" gang5", 1, 0, 5);
        right("gang5 ", 1, 0, 5);
        right("   gang   5   ", 1, 0, 5);
        right("gang 4;gang 5", 2, 0, 5);
        right("gang 4 ;gang 5", 2, 0, 5);
        right("gang 4; gang 5", 2, 0, 5);
        right("  gang  4  ;  gang  5  ", 2, 0, 5);
        right("rate0 7", 1, 7, 7);
        right("  rate  0  7  ", 1, 7, 7);
        right("  first  tons  ", 1, FIRST, 1);
        right(" ".repeat(394) + "gang 5", 1, 0, 5);
        right("gang 5" + " ".repeat(394), 1, 0, 5);
        right("gang" + " ".repeat(395) + "5", 1, 0, 5);
        wrong("gang 1 2", 7);
        wrong("ga ng 5", 0);
    }

    private void otherBytesAreNoBlanks() {
        check.sentence("blanks (32)");
        for (char sign : new char[] {0, 9, 10, 13, 31, 33, 127, 160, 255}) {
            wrong(sign + "gang 5", 0);
            wrong("gang" + sign + "5", 4);
            wrong("gang 5" + sign, 6);
            wrong("gang 5" + sign + ";bar 1", 6);
            wrong("gang 5;" + sign + "bar 1", 7);
            wrong(String.valueOf(sign), 0);
        }
    }

    private void clausesAndSemicolons() {
        check.sentence("CLAUSE { ; CLAUSE }");
        wrong("", 0);
        wrong(";", 0);
        wrong(" ;", 1);
        wrong(";gang 5", 0);
        wrong("gang 5;", 7);
        wrong("gang 5; ", 8);
        wrong("gang 5;;bar 1", 7);
        wrong("gang 5; ;bar 1", 8);
        wrong("gang 5 bar 1", 7);
        wrong("gang 5bar 1", 6);
        wrong("gang 5,bar 1", 6);
        wrong("gang 5:bar 1", 6);
        wrong("gang 5<bar 1", 6);
        right("gang 5", 1, 0, 5);
        right("gang 4;gang 5", 2, 0, 5);
        right("gang 4;gang 4;gang 5", 3, 0, 5);
    }

    private void howManyClauses() {
        check.sentence("agree: how many CLAUSES");
        for (int clauses = 1; clauses <= 80; clauses++) {
            right("bar1;".repeat(clauses - 1) + "bar0", clauses, 2, 0);
        }
        right("bar1;".repeat(79) + "bar 0", 80, 2, 0);
        wrong("bar1;".repeat(80), 400);
        right("pay 1;".repeat(65) + "pay   1000", 66, 3, 1000);
        wrong("pay 1;".repeat(65) + "pay   1001", 396);
    }

    private void notToldStays() {
        check.sentence("What a text does not tell stays as it is");
        DockCall dock = new DockCall();
        int[] due = Docks.FIRST_AGREEMENT.clone();
        String[] texts = {"gang 8", "cranes 3", "bar 9", "pay 55", "rain 66", "broken 1", "first number", "rate 0 20",
            "rate 1 21", "rate 2 22", "rate 3 23"};
        int[] says = {8, 3, 9, 55, 66, 1, 2, 20, 21, 22, 23};
        for (int told = 0; told < texts.length; told++) {
            Texts.agree(dock, texts[told]);
            due[told] = says[told];
            for (int what = 0; what <= 10; what++) {
                check.is("says(" + what + ") behind '" + texts[told] + "'", due[what], dock.says(what));
            }
        }
    }

    private void laterCounts() {
        check.sentence("of two CLAUSES alike the later one counts");
        right("gang 8;gang 1", 2, 0, 1);
        right("gang 1;gang 8;gang 4", 3, 0, 4);
        right("first tons;first number;first waiting", 3, FIRST, 0);
        right("rate 2 5;rate 2 500", 2, 9, 500);
        right("rate 2 500;rate 2 5", 2, 9, 5);
        DockCall dock = new DockCall();
        check.is("rates of other skills are not alike", 4, Texts.agree(dock, "rate 0 1;rate 1 2;rate 0 3;rate 3 4"));
        int[] rates = {3, 2, 10, 4};
        for (int skill = 0; skill < 4; skill++) {
            check.is("rate of " + skill, rates[skill], dock.says(7 + skill));
        }
        wrong("gang 9;gang 1", 5);
    }

    private void moreMustCome() {
        check.sentence("or the text's length, if more must come");
        for (String text : new String[] {"", " ", "   ", "gang", "gang ", "rate", "rate ", "rate 0", "rate 0 ", "first",
            "first  ", "gang 4;", "gang 4 ;  ", "gang 4;bar", "gang 4;rate 1"}) {
            wrong(text, text.length());
        }
        wrong(" ".repeat(400), 400);
        wrong(" ".repeat(396) + "gang", 400);
        wrong(" ".repeat(395) + "gang ", 400);
        wrong(" ".repeat(396) + "gan ", 396);
    }

    private void firstWrongThing() {
        check.sentence("the begin of the first thing that cannot stand there");
        wrong("gang 9;bar 21", 5);
        wrong("gang 8;bar 21", 11);
        wrong("gang bar", 5);
        wrong("gang ;", 5);
        wrong("7 gang", 0);
        wrong("gang 4 4", 7);
        wrong("gang 4 00004", 7);
        wrong("gang 4 none", 7);
        wrong("gang 4 gang 4", 7);
        wrong("rate 0 7 7", 9);
        wrong("rate bar 7", 5);
        wrong("rate 0;7", 6);
        wrong("rate 0 bar", 7);
        wrong("first;tons", 5);
        wrong("first 1;tons", 6);
    }

    private void usesTheTapeUp() {
        check.sentence("Uses the TAPE up");
        for (String text : new String[] {"gang 5", "gang 9", "bar1;".repeat(79) + "bar 0", "bar1;".repeat(80)}) {
            DockCall dock = new DockCall();
            Texts.feed(dock, 0, text);
            Check.answerOf(dock::agree);
            check.is("end(1) behind '" + text + "'", false, dock.end(1));
            check.is("feed behind '" + text + "'", 20, dock.feed(0x62617220, 0x37202020, BLANKS, BLANKS, BLANKS));
            check.is("agree() of the next", 1, dock.agree());
            check.is("says(2)", 7, dock.says(2));
            check.throwsIt("agree() of none", Docks.ILLEGAL, dock::agree);
            check.is("fault() of none", 0, dock.fault());
        }
    }

    private void allStays() {
        check.sentence("IllegalArgumentException: the text is wrong: all stays");
        wrong("gang 1;rate 0 1;rate 1 1;rate 2 1;rate 3 1;cranes 1;bar 1;pay 1;rain 1;broken 1;first tons;", 91);
        wrong("gang 1;rate 0 1;rate 1 1;rate 2 1;rate 3 1;cranes 1;bar 1;pay 1;rain 1;broken 1;first tons;x", 91);
        DockCall dock = new DockCall();
        Texts.agree(dock, "gang 3;first number");
        check.throwsIt("wrong", Docks.ILLEGAL, () -> Texts.agree(dock, "gang 5;first tons;gang 0"));
        check.is("says(0)", 3, dock.says(0));
        check.is("says(6)", 2, dock.says(6));
        check.is("the next text", 1, Texts.agree(dock, "bar 4"));
        check.is("says(0) behind the next", 3, dock.says(0));
        check.is("says(6) behind the next", 2, dock.says(6));
    }

    private void faultOfTheLatest() {
        check.sentence("The first wrong byte of the latest agree(); NONE without one, and ahead of any");
        DockCall dock = new DockCall();
        check.is("ahead of any", DockCall.NONE, dock.fault());
        Texts.feed(dock, 0, "x");
        check.is("fed alone", DockCall.NONE, dock.fault());
        check.throwsIt("agree()", Docks.ILLEGAL, dock::agree);
        check.is("wrong at 0", 0, dock.fault());
        check.throwsIt("agree()", Docks.ILLEGAL, () -> Texts.agree(dock, "gang 4 x"));
        check.is("wrong at 7", 7, dock.fault());
        Texts.feed(dock, 0, "gang 4");
        check.is("till the next agree()", 7, dock.fault());
        check.is("agree()", 1, dock.agree());
        check.is("a right text", DockCall.NONE, dock.fault());
        check.throwsIt("agree() of none", Docks.ILLEGAL, dock::agree);
        check.is("wrong at 0 of none", 0, dock.fault());
    }

    private void anotherWhat() {
        check.sentence("says: NoSuchElementException: another what");
        DockCall dock = new DockCall();
        for (int none : new int[] {-1, 11, 12, Integer.MIN_VALUE, Integer.MAX_VALUE}) {
            check.throwsIt("says(" + none + ")", Docks.NO_SUCH, () -> dock.says(none));
        }
        for (int what = 0; what <= 10; what++) {
            check.is("says(" + what + ")", Docks.FIRST_AGREEMENT[what], dock.says(what));
        }
    }
}
