/** The document's promises one by one: ordinary inputs, edges and wrong inputs, with answers reckoned by hand. */
public final class PromisesTest {
    private static final Class<? extends RuntimeException> ILLEGAL = Docks.ILLEGAL;
    private static final Class<? extends RuntimeException> OUTSIDE = Docks.OUTSIDE;
    private static final Class<? extends RuntimeException> TOO_MANY = Docks.TOO_MANY;
    private static final Class<? extends RuntimeException> NO_SUCH = Docks.NO_SUCH;
    private static final int[] FIRST_AGREEMENT = Docks.FIRST_AGREEMENT;

    private final Check check = new Check("promises");

    public static void main(String[] args) {
        PromisesTest test = new PromisesTest();
        test.newObject();
        test.feed();
        test.end();
        test.man();
        test.ship();
        test.hatch();
        test.agree();
        test.agreeRanges();
        test.fault();
        test.says();
        test.callAnswers();
        test.callOrderOfShips();
        test.callCranes();
        test.callTurns();
        test.callRefusals();
        test.callIdleHatch();
        test.callFullDock();
        test.callPay();
        test.look();
        test.tons();
        test.state();
        test.entry();
        test.entriesFull();
        test.rule();
        test.ruleFull();
        test.earned();
        test.want();
        test.unwant();
        test.plan();
        test.count();
        test.check.end();
    }

    private void agreementIs(String when, DockCall dock, int... due) {
        for (int what = 0; what < due.length; what++) {
            check.is(when + ": says(" + what + ")", due[what], dock.says(what));
        }
    }

    private void newObject() {
        DockCall dock = new DockCall();
        for (int what = 0; what <= 9; what++) {
            check.is("new: count(" + what + ")", 0, dock.count(what));
        }
        agreementIs("new", dock, FIRST_AGREEMENT);
        check.is("new: fault()", DockCall.NONE, dock.fault());
        check.is("new: unwant()", 0, dock.unwant());
        check.is("new: end(1)", false, dock.end(1));
        check.throwsIt("new: look(0, 0)", OUTSIDE, () -> dock.look(0, 0));
        check.throwsIt("new: state(0, 0)", OUTSIDE, () -> dock.state(0, 0));
        check.throwsIt("new: entry(0, 0)", OUTSIDE, () -> dock.entry(0, 0));
        dock.man(1);
        check.is("another object has none of it", 0, new DockCall().count(0));
    }

    private void feed() {
        DockCall dock = new DockCall();
        // "gang 3;bar 5;pay 100": the highest byte of each number first
        check.is("feed", 20, dock.feed(0x67616e67, 0x20333b62, 0x61722035, 0x3b706179, 0x20313030));
        check.is("agree()", 3, dock.agree());
        agreementIs("fed", dock, 3, 12, 5, 100);
        for (int times = 1; times <= 20; times++) {
            check.is("feed " + times, 20 * times, dock.feed(-1, 0, 1, 2, 3));
        }
        check.is("feed above 400", DockCall.NONE, dock.feed(0, 0, 0, 0, 0));
        check.is("none came", false, dock.end(401));
        check.is("end(381)", true, dock.end(381));
        check.is("feed from 381", DockCall.NONE, dock.feed(0, 0, 0, 0, 0));
        check.is("end(380)", true, dock.end(380));
        check.is("feed from 380", 400, dock.feed(0, 0, 0, 0, 0));
    }

    private void end() {
        DockCall dock = new DockCall();
        check.is("end(0) of none", true, dock.end(0));
        check.is("end(-1) of none", false, dock.end(-1));
        dock.feed(0x67616e67, 0x20335858, 0, 0, 0);
        check.is("end(21)", false, dock.end(21));
        check.is("end(MIN)", false, dock.end(Integer.MIN_VALUE));
        check.is("end(MAX)", false, dock.end(Integer.MAX_VALUE));
        check.is("end(20)", true, dock.end(20));
        check.is("end(6)", true, dock.end(6));
        check.is("end(7), as six are left", false, dock.end(7));
        check.is("agree()", 1, dock.agree());
        check.is("the tape is used up", false, dock.end(1));
        dock.feed(0x67616e67, 0x20000000, 0, 0, 0);
        dock.end(5);
        check.is("feed behind five", 25, dock.feed(0x37202020, 0, 0, 0, 0));
        dock.end(9);
        check.is("agree() of both", 1, dock.agree());
        check.is("says(0)", 7, dock.says(0));
    }

    private void man() {
        DockCall dock = new DockCall();
        check.throwsIt("man(0)", ILLEGAL, () -> dock.man(0));
        check.throwsIt("man(16)", ILLEGAL, () -> dock.man(16));
        check.throwsIt("man(-1)", ILLEGAL, () -> dock.man(-1));
        for (int card = 0; card < 24; card++) {
            check.is("man", card, dock.man(card % 15 + 1));
        }
        check.throwsIt("the 25th man", TOO_MANY, () -> dock.man(1));
        check.throwsIt("the 25th man without skills", ILLEGAL, () -> dock.man(0));
        check.is("men", 24, dock.count(0));
        check.is("look(14, 0)", 15, dock.look(14, 0));
    }

    private void ship() {
        DockCall dock = new DockCall();
        for (int number = 0; number < 10; number++) {
            check.is("ship()", number, dock.ship());
        }
        check.throwsIt("the 11th ship", TOO_MANY, dock::ship);
        check.is("ships", 10, dock.count(1));
        check.is("hatches", 0, dock.state(9, 1));
    }

    private void hatch() {
        DockCall dock = new DockCall();
        check.throwsIt("no ship", OUTSIDE, () -> dock.hatch(0, -1, 9, true));
        dock.ship();
        dock.ship();
        check.throwsIt("ship -1", OUTSIDE, () -> dock.hatch(-1, 1, 0, true));
        check.throwsIt("ship 2", OUTSIDE, () -> dock.hatch(2, 1, 0, true));
        check.throwsIt("tons -1", ILLEGAL, () -> dock.hatch(0, -1, 0, true));
        check.throwsIt("tons 2001", ILLEGAL, () -> dock.hatch(0, 2001, 0, true));
        check.throwsIt("skill -1", ILLEGAL, () -> dock.hatch(0, 1, -1, true));
        check.throwsIt("skill 4", ILLEGAL, () -> dock.hatch(0, 1, 4, true));
        check.is("first hatch", 0, dock.hatch(0, 0, 0, true));
        check.is("second hatch", 1, dock.hatch(0, 2000, 3, false));
        check.is("third hatch", 2, dock.hatch(0, 7, 1, false));
        check.is("another ship's first", 0, dock.hatch(1, 9, 1, false));
        check.is("fourth hatch", 3, dock.hatch(0, 8, 2, true));
        check.throwsIt("fifth hatch", TOO_MANY, () -> dock.hatch(0, 1, 0, true));
        check.throwsIt("fifth hatch with a wrong skill", ILLEGAL, () -> dock.hatch(0, 1, 4, true));
        check.is("hatches", 4, dock.state(0, 1));
        check.is("tons left", 2024, dock.count(4));
    }

    private void agree() {
        DockCall dock = new DockCall();
        check.is("all clauses", 10, Texts.agree(dock, "gang 8;rate 0 500;rate 3 1;cranes 1;bar 20;pay 1000;"
            + "rain 100;broken 4;first tons;first number"));
        agreementIs("all clauses", dock, 8, 1, 20, 1000, 100, 4, 2, 500, 10, 10, 1);
        check.is("blanks everywhere", 2, Texts.agree(dock, "   gang   0003  ;  rate 1   0020  "));
        agreementIs("blanks", dock, 3, 1, 20, 1000, 100, 4, 2, 500, 20, 10, 1);
        check.is("blanks nowhere", 3, Texts.agree(dock, "gang5;bar0;rate2 30"));
        agreementIs("no blanks", dock, 5, 1, 0, 1000, 100, 4, 2, 500, 20, 30, 1);
        check.is("the later counts", 3, Texts.agree(dock, "pay 1;pay 0;first waiting"));
        agreementIs("the later", dock, 5, 1, 0, 0, 100, 4, 0, 500, 20, 30, 1);
        check.throwsIt("wrong behind right", ILLEGAL, () -> Texts.agree(dock, "gang 2;pay 7;bar"));
        agreementIs("wrong text", dock, 5, 1, 0, 0, 100, 4, 0, 500, 20, 30, 1);
        check.is("a wrong text is used up", false, dock.end(1));
        check.throwsIt("no text", ILLEGAL, dock::agree);
        String longText = "pay 1;".repeat(66) + "bar1";
        check.is("a text of 400 bytes", 67, Texts.agree(dock, longText));
    }

    private void agreeRanges() {
        String[] words = {"gang", "cranes", "bar", "pay", "rain", "broken", "first", "rate 0", "rate 1", "rate 2",
            "rate 3"};
        int[] least = {1, 1, 0, 0, 0, 0, 0, 1, 1, 1, 1};
        int[] most = {8, 12, 20, 1000, 100, 4, 0, 500, 500, 500, 500};
        for (int what = 0; what < words.length; what++) {
            if (what == 6) {
                continue;
            }
            for (int value : new int[] {least[what], most[what]}) {
                DockCall dock = new DockCall();
                check.is(words[what] + value, 1, Texts.agree(dock, words[what] + " " + value));
                check.is(words[what] + value + ": says", value, dock.says(what));
                for (int other = 0; other < words.length; other++) {
                    if (other != what) {
                        check.is(words[what] + " leaves " + other, FIRST_AGREEMENT[other], dock.says(other));
                    }
                }
            }
            faultIs(words[what].length() + 1, words[what] + " " + (most[what] + 1));
            if (least[what] == 1) {
                faultIs(words[what].length() + 1, words[what] + " 0");
            }
        }
    }

    private void faultIs(int due, String text) {
        DockCall dock = new DockCall();
        check.throwsIt("agree() of '" + text + "'", ILLEGAL, () -> Texts.agree(dock, text));
        check.is("fault() of '" + text + "'", due, dock.fault());
        agreementIs("wrong '" + text + "'", dock, FIRST_AGREEMENT);
    }

    private void fault() {
        faultIs(0, "");
        faultIs(3, "   ");
        faultIs(0, ";");
        faultIs(1, " ;gang 4");
        faultIs(0, "4");
        faultIs(0, "gangs 4");
        faultIs(0, "gan");
        faultIs(0, "wang 4");
        faultIs(0, "gangz 4");
        faultIs(0, "ganga 4");
        faultIs(0, "Gang 4");
        faultIs(0, "gaNg 4");
        faultIs(0, "firstwaiting");
        faultIs(0, "waiting");
        faultIs(0, "\u00e7");
        faultIs(4, "gang");
        faultIs(7, "gang   ");
        faultIs(4, "gang;");
        faultIs(5, "gang x");
        faultIs(5, "gang -4");
        faultIs(5, "gang 00004");
        faultIs(5, "gang 99999999999999999999");
        faultIs(6, "gang 4x");
        faultIs(7, "gang 4 4");
        faultIs(7, "gang 4 bar 4");
        faultIs(7, "gang 4 \t;bar 1");
        faultIs(6, "gang 4\0");
        faultIs(7, "gang 4;");
        faultIs(10, "gang 4 ;  ");
        faultIs(7, "gang 4;;bar 1");
        faultIs(7, "gang 4;4");
        faultIs(8, "gang 4; none");
        faultIs(4, "rate");
        faultIs(6, "rate 0");
        faultIs(8, "rate 0  ");
        faultIs(6, "rate 0;");
        faultIs(5, "rate 4");
        faultIs(5, "rate 010");
        faultIs(7, "rate 0 501");
        faultIs(7, "rate 0 00010");
        faultIs(10, "rate 0 10 10");
        faultIs(5, "first");
        faultIs(6, "first 1");
        faultIs(6, "first waitings");
        faultIs(6, "first gang");
        faultIs(11, "first tons;");
        faultIs(11, "first tons number");
        DockCall dock = new DockCall();
        check.throwsIt("wrong", ILLEGAL, () -> Texts.agree(dock, "bar bar"));
        check.is("fault() stays", 4, dock.fault());
        check.is("fault() is only asked", 4, dock.fault());
        Texts.agree(dock, "bar 1");
        check.is("fault() behind a right text", DockCall.NONE, dock.fault());
    }

    private void says() {
        DockCall dock = new DockCall();
        check.throwsIt("says(-1)", NO_SUCH, () -> dock.says(-1));
        check.throwsIt("says(11)", NO_SUCH, () -> dock.says(11));
        check.throwsIt("says(MAX)", NO_SUCH, () -> dock.says(Integer.MAX_VALUE));
        Texts.agree(dock, "first tons;rate 2 77");
        check.is("says(6)", 1, dock.says(6));
        check.is("says(9)", 77, dock.says(9));
    }

    private void callAnswers() {
        DockCall dock = Docks.with(5, "gang 2;rate 0 3");
        check.throwsIt("call(-1, 0)", ILLEGAL, () -> dock.call(-1, 0));
        check.throwsIt("call(16, 0)", ILLEGAL, () -> dock.call(16, 0));
        check.is("a call that threw was none", 0, dock.count(2));
        check.is("no cargo", 0, dock.call(0, 0));
        dock.hatch(0, 100, 0, false);
        dock.hatch(0, 20, 0, true);
        dock.hatch(0, 100, 0, false);
        check.is("two gangs of five men", 2, dock.call(5, 1 << 30 | Integer.MIN_VALUE));
        check.is("idle", 1, dock.count(7));
        check.is("four hours of 3", 88, dock.tons(0, 0));
        check.is("dry: two hours rained", 14, dock.tons(0, 1));
        check.is("no gang", 100, dock.tons(0, 2));
        check.is("nobody refused", 0, dock.look(0, 3) + dock.look(4, 3));
        check.is("moved", 18, dock.count(5));
    }

    private void callOrderOfShips() {
        int[][] dueShip = {{0, 3}, {2, 3}, {0, 3}};
        String[] orders = {"waiting", "tons", "number"};
        for (int first = 0; first < 3; first++) {
            DockCall dock = Docks.with(1, "gang 1;rate 0 500;first " + orders[first]);
            dock.hatch(0, 10, 0, false);
            dock.ship();
            dock.ship();
            dock.hatch(2, 20, 0, false);
            dock.hatch(2, 20, 0, false);
            dock.ship();
            dock.hatch(3, 40, 0, false);
            dock.call(0, 0);
            check.is("first " + orders[first], dueShip[first][0], dock.look(0, 4));
            dock.call(0, 0);
            dock.call(0, 0);
            dock.call(0, 0);
            check.is("all done, first " + orders[first], 0, dock.count(4));
        }
        DockCall dock = Docks.with(1, "gang 1;rate 0 15;first tons");
        dock.hatch(0, 30, 0, false);
        dock.ship();
        dock.hatch(1, 30, 0, false);
        dock.call(0, 0);
        check.is("of equals the lesser number", 0, dock.look(0, 4));
        dock.ship();
        dock.hatch(2, 29, 0, false);
        dock.call(0, 0);
        check.is("tons are asked anew", 1, dock.look(0, 4));
    }

    private void callCranes() {
        DockCall dock = Docks.with(6, "gang 2;cranes 2");
        dock.hatch(0, 900, 1, false);
        dock.hatch(0, 900, 0, false);
        dock.hatch(0, 0, 0, false);
        dock.ship();
        dock.hatch(1, 900, 0, false);
        dock.hatch(1, 900, 0, false);
        dock.hatch(1, 900, 1, false);
        check.is("no crane for a hatch without gang", 2, dock.call(0, 63 - 15));
        check.is("only want of men is idle", 1, dock.count(7));
        check.is("who is not asked does not refuse", 0, dock.look(4, 3) + dock.look(5, 3));
        check.is("ship 1, hatch 0", 860, dock.tons(1, 0));
        check.is("ship 1, hatch 1", 900, dock.tons(1, 1));
    }

    private void callTurns() {
        DockCall dock = Docks.with(3, "gang 1");
        dock.hatch(0, 2000, 0, false);
        int[] due = {0, 1, 2, 0, 1};
        for (int call = 0; call < due.length; call++) {
            dock.call(0, 0);
            check.is("who comes at call " + call, 0, dock.look(due[call], 4));
            check.is("card of entry " + call, due[call], dock.entry(call, 1));
        }
        dock.man(1);
        dock.call(0, 0);
        check.is("the new man has the fewest turns", 0, dock.look(3, 4));
        dock.call(0, 0);
        check.is("then of two with one turn the lesser card", 0, dock.look(2, 4));
        check.is("his turns", 2, dock.look(2, 1));
    }

    private void callRefusals() {
        DockCall dock = Docks.with(4, "gang 2;bar 1");
        dock.hatch(0, 2000, 0, false);
        check.is("1 refuses, 3 is not asked", 1, dock.call(0, 2 | 8));
        check.is("refused", 1, dock.look(1, 3));
        check.is("3 did not", 0, dock.look(3, 3));
        check.is("turns of who refused", 0, dock.look(1, 1));
        check.is("barred at call 1", 1, dock.look(1, 2));
        check.is("call 1", 1, dock.call(0, 2));
        check.is("barred men are not asked", 1, dock.look(1, 3));
        check.is("3 came", 0, dock.look(3, 4));
        check.is("free at call 2", 0, dock.look(1, 2));
        Texts.agree(dock, "bar 0");
        dock.call(0, 2);
        check.is("refused again", 2, dock.look(1, 3));
        check.is("bar 0: this call alone", 0, dock.look(1, 2));
        Texts.agree(dock, "bar 20");
        dock.call(0, 2);
        Texts.agree(dock, "bar 0");
        for (int call = 4; call < 24; call++) {
            check.is("barred at " + call, 1, dock.look(1, 2));
            dock.call(0, 0);
        }
        check.is("free at 24", 0, dock.look(1, 2));
    }

    private void callIdleHatch() {
        DockCall dock = new DockCall();
        dock.man(1);
        dock.man(3);
        dock.man(3);
        Texts.agree(dock, "gang 2;bar 2");
        dock.ship();
        dock.hatch(0, 50, 0, false);
        dock.hatch(0, 50, 1, false);
        check.is("all with the skill are asked", 0, dock.call(0, 2 | 1));
        check.is("idle both", 2, dock.count(7));
        check.is("0 refused once", 1, dock.look(0, 3));
        check.is("1 refused once", 1, dock.look(1, 3));
        check.is("2 was willing", 0, dock.look(2, 3));
        check.is("no turn", 0, dock.look(2, 1));
        check.is("no gang", DockCall.NONE, dock.look(2, 4));
        DockCall other = new DockCall();
        other.man(1);
        other.man(3);
        other.man(2);
        Texts.agree(other, "gang 2");
        other.ship();
        other.hatch(0, 50, 0, false);
        other.hatch(0, 50, 1, false);
        check.is("the willing are asked again", 1, other.call(0, 1));
        check.is("1 works at hatch 1", 1, other.look(1, 5));
        check.is("2 works at hatch 1", 1, other.look(2, 5));
        check.is("one idle", 1, other.count(7));
        other.call(0, 0);
        check.is("idle of the latest call", 1, other.count(7));
    }

    /** As many of all as there may be: 24 men make three gangs of eight, for the ships with the most tons. */
    private void callFullDock() {
        DockCall dock = new DockCall();
        for (int card = 0; card < 24; card++) {
            dock.man(1);
        }
        Texts.agree(dock, "gang 8;first tons;rate 0 1");
        for (int ship = 0; ship < 10; ship++) {
            dock.ship();
            for (int hatch = 0; hatch < 4; hatch++) {
                dock.hatch(ship, 100 + 10 * ship, 0, false);
            }
        }
        check.is("tons", 4 * (1000 + 450), dock.count(4));
        check.is("three gangs", 3, dock.call(0, 0));
        check.is("idle are all others", 37, dock.count(7));
        for (int card = 0; card < 24; card++) {
            check.is("ship of card " + card, 9, dock.look(card, 4));
            check.is("hatch of card " + card, card / 8, dock.look(card, 5));
        }
        for (int ship = 0; ship < 10; ship++) {
            check.is("ship " + ship + " waited", 1, dock.state(ship, 3));
        }
        check.is("all unwilling", 0, dock.call(0, -1));
        check.is("all idle", 40, dock.count(7));
        dock.call(0, 0);
        dock.call(0, 0);
        Texts.agree(dock, "gang 5;cranes 4");
        // turns are all 1: five and five by cards, then the rest
        check.is("four gangs", 4, dock.call(0, 0));
        check.is("no hatch wants for men", 0, dock.count(7));
        check.is("four men are left", 4, dock.look(20, 1) + dock.look(21, 1) + dock.look(22, 1) + dock.look(23, 1));
        Texts.agree(dock, "gang 6;cranes 1");
        dock.call(0, 0);
        int[] cards = {20, 21, 22, 23, 0, 1};
        for (int i = 0; i < cards.length; i++) {
            check.is("man " + i + " of the gang", cards[i], dock.entry(dock.count(3) - 6 + i, 1));
        }
    }

    private void payIs(int due, String text, int tons, boolean dry, int rain) {
        DockCall dock = Docks.with(1, text);
        dock.hatch(0, tons, 0, dry);
        dock.call(rain, 0);
        check.is("pay by '" + text + "' for " + tons + (dry ? " dry" : "") + ", rain " + rain, due, dock.entry(0, 2));
        check.is("all pay", due, dock.count(9));
    }

    private void callPay() {
        payIs(40, "gang 1", 2000, true, 0);
        payIs(30, "gang 1", 21, true, 0);
        payIs(20, "gang 1", 10, true, 0);
        payIs(40, "gang 1;broken 4", 1, false, 15);
        payIs(10, "gang 1;broken 0", 10, true, 0);
        payIs(10, "gang 1;broken 1", 10, true, 0);
        payIs(20, "gang 1", 2000, true, 15);
        payIs(40, "gang 1", 2000, false, 15);
        payIs(15, "gang 1", 10, true, 1);
        payIs(10, "gang 1;broken 0", 10, true, 14);
        payIs(25, "gang 1", 10, true, 7);
        payIs(18, "gang 1;pay 7;rain 33;broken 4", 100, true, 9);
        payIs(11, "gang 1;pay 3;rain 99", 100, true, 15);
        payIs(11, "gang 1;pay 3;rain 99", 100, true, 7);
        payIs(4000, "gang 1;pay 1000;rain 100", 100, true, 15);
        payIs(0, "gang 1;pay 0", 100, true, 15);
    }

    private void look() {
        DockCall dock = Docks.with(1, "gang 1");
        dock.man(6);
        check.throwsIt("look(-1, 0)", OUTSIDE, () -> dock.look(-1, 0));
        check.throwsIt("look(2, 9)", OUTSIDE, () -> dock.look(2, 9));
        check.throwsIt("look(0, 6)", NO_SUCH, () -> dock.look(0, 6));
        check.throwsIt("look(0, -1)", NO_SUCH, () -> dock.look(0, -1));
        int[] fresh = {6, 0, 0, 0, DockCall.NONE, DockCall.NONE};
        for (int what = 0; what < 6; what++) {
            check.is("fresh look(1, " + what + ")", fresh[what], dock.look(1, what));
        }
        dock.hatch(0, 0, 1, false);
        dock.hatch(0, 50, 1, false);
        dock.call(0, 0);
        int[] worked = {6, 1, 0, 0, 0, 1};
        for (int what = 0; what < 6; what++) {
            check.is("worked look(1, " + what + ")", worked[what], dock.look(1, what));
        }
        dock.call(0, 2);
        int[] refused = {6, 1, 1, 1, DockCall.NONE, DockCall.NONE};
        for (int what = 0; what < 6; what++) {
            check.is("refused look(1, " + what + ")", refused[what], dock.look(1, what));
        }
    }

    private void tons() {
        DockCall dock = Docks.with(1, "gang 1;rate 0 7");
        dock.hatch(0, 30, 0, false);
        check.throwsIt("tons(-1, 0)", OUTSIDE, () -> dock.tons(-1, 0));
        check.throwsIt("tons(1, 0)", OUTSIDE, () -> dock.tons(1, 0));
        check.throwsIt("tons(0, -1)", OUTSIDE, () -> dock.tons(0, -1));
        check.throwsIt("tons(0, 1)", OUTSIDE, () -> dock.tons(0, 1));
        check.is("tons(0, 0)", 30, dock.tons(0, 0));
        dock.call(0, 0);
        check.is("tons(0, 0) behind a call", 2, dock.tons(0, 0));
        dock.call(0, 0);
        check.is("tons(0, 0) at the end", 0, dock.tons(0, 0));
    }

    private void state() {
        DockCall dock = Docks.with(1, "gang 1");
        check.throwsIt("state(1, 9)", OUTSIDE, () -> dock.state(1, 9));
        check.throwsIt("state(-1, 0)", OUTSIDE, () -> dock.state(-1, 0));
        check.throwsIt("state(0, 4)", NO_SUCH, () -> dock.state(0, 4));
        check.throwsIt("state(0, -1)", NO_SUCH, () -> dock.state(0, -1));
        check.is("done without hatches", 1, dock.state(0, 2));
        dock.call(0, 0);
        check.is("done ships do not wait", 0, dock.state(0, 3));
        dock.ship();
        check.is("came", 1, dock.state(1, 0));
        dock.hatch(1, 50, 0, false);
        dock.hatch(1, 0, 0, false);
        check.is("hatches", 2, dock.state(1, 1));
        check.is("not done", 0, dock.state(1, 2));
        dock.call(0, 0);
        check.is("waited one call", 1, dock.state(1, 3));
        dock.call(0, 0);
        check.is("done", 1, dock.state(1, 2));
        check.is("not the call at which it is done", 1, dock.state(1, 3));
        dock.hatch(1, 50, 3, false);
        check.is("not done any more", 0, dock.state(1, 2));
        dock.call(0, 0);
        check.is("waits again", 2, dock.state(1, 3));
        check.is("came as ever", 1, dock.state(1, 0));
    }

    private void entry() {
        DockCall dock = new DockCall();
        dock.man(2);
        dock.man(1);
        dock.man(1);
        Texts.agree(dock, "gang 1;rate 0 500;first tons");
        dock.ship();
        dock.hatch(0, 10, 1, false);
        dock.hatch(0, 600, 0, false);
        dock.ship();
        dock.hatch(1, 1700, 0, false);
        dock.call(0, 2);
        int[][] due = {{0, 2, 40, 40}, {0, 0, 20, 20}};
        for (int entry = 0; entry < 2; entry++) {
            for (int what = 0; what < 4; what++) {
                check.is("entry(" + entry + ", " + what + ")", due[entry][what], dock.entry(entry, what));
            }
        }
        check.is("entries", 2, dock.count(3));
        check.throwsIt("entry(2, 9)", OUTSIDE, () -> dock.entry(2, 9));
        check.throwsIt("entry(-1, 0)", OUTSIDE, () -> dock.entry(-1, 0));
        check.throwsIt("entry(0, 4)", NO_SUCH, () -> dock.entry(0, 4));
        check.throwsIt("entry(0, -1)", NO_SUCH, () -> dock.entry(0, -1));
        DockCall gang = Docks.with(3, "gang 2");
        gang.hatch(0, 2000, 0, false);
        gang.call(0, 1);
        gang.call(0, 0);
        gang.call(0, 0);
        gang.call(0, 0);
        int[] cards = {1, 2, 1, 2, 1, 2, 0, 1};
        for (int entry = 0; entry < cards.length; entry++) {
            check.is("card of entry " + entry, cards[entry], gang.entry(entry, 1));
            check.is("call of entry " + entry, entry / 2, gang.entry(entry, 0));
        }
    }

    private void entriesFull() {
        DockCall dock = Docks.with(24, "gang 8;rate 0 1;cranes 3");
        for (int hatch = 0; hatch < 3; hatch++) {
            dock.hatch(0, 2000, 0, false);
        }
        for (int call = 0; call < 40; call++) {
            check.is("gangs", 3, dock.call(0, 0));
        }
        check.is("entries kept", 800, dock.count(3));
        check.throwsIt("entry(800, 0)", OUTSIDE, () -> dock.entry(800, 0));
        check.is("the last is of call 33", 33, dock.entry(799, 0));
        check.is("and card 7", 7, dock.entry(799, 1));
        check.is("turns go on", 40, dock.look(23, 1));
        check.is("all pay", 40 * 24 * 40, dock.count(9));
        check.is("earned by kept entries", 34 * 40, dock.earned(7, 100, 100));
        check.is("earned by kept entries", 33 * 40, dock.earned(8, 100, 100));
    }

    private void rule() {
        DockCall dock = Docks.with(1, "gang 1");
        dock.hatch(0, 2000, 0, false);
        check.throwsIt("rule(0, -1) without entries", OUTSIDE, () -> dock.rule(0, -1));
        dock.call(0, 0);
        check.throwsIt("rule(1, 5)", OUTSIDE, () -> dock.rule(1, 5));
        check.throwsIt("rule(-1, 5)", OUTSIDE, () -> dock.rule(-1, 5));
        check.throwsIt("rule(0, -1)", ILLEGAL, () -> dock.rule(0, -1));
        check.throwsIt("rule(0, 100001)", ILLEGAL, () -> dock.rule(0, 100001));
        check.is("nothing ruled", 0, dock.count(8));
        check.is("rule(0, 100000)", true, dock.rule(0, 100000));
        check.is("known", 100000, dock.entry(0, 3));
        check.is("rule(0, 0)", true, dock.rule(0, 0));
        check.is("known anew", 0, dock.entry(0, 3));
        check.is("as made", 40, dock.entry(0, 2));
        check.is("all pay as made", 40, dock.count(9));
        check.is("ruled", 2, dock.count(8));
    }

    private void ruleFull() {
        DockCall dock = Docks.with(1, "gang 1");
        dock.hatch(0, 2000, 0, false);
        dock.call(0, 0);
        dock.call(0, 0);
        for (int i = 0; i < 100; i++) {
            check.is("ruling " + i, true, dock.rule(i % 2, i));
        }
        check.is("one too many", false, dock.rule(0, 7));
        check.throwsIt("wrong money then too", ILLEGAL, () -> dock.rule(0, -7));
        check.throwsIt("wrong entry then too", OUTSIDE, () -> dock.rule(2, 7));
        check.is("entry 0", 98, dock.entry(0, 3));
        check.is("entry 1", 99, dock.entry(1, 3));
        check.is("ruled", 100, dock.count(8));
    }

    private void earned() {
        DockCall dock = Docks.with(2, "gang 1");
        dock.hatch(0, 2000, 0, false);
        dock.call(0, 0);
        dock.call(0, 0);
        dock.call(0, 0);
        dock.rule(0, 7);
        dock.rule(0, 8);
        dock.call(0, 0);
        dock.rule(0, 100);
        dock.rule(2, 1);
        check.throwsIt("earned(-1, 0, 0)", OUTSIDE, () -> dock.earned(-1, 0, 0));
        check.throwsIt("earned(2, 0, 0)", OUTSIDE, () -> dock.earned(2, 0, 0));
        int[] byKnown = {0, 40, 40, 48, 101, 101};
        for (int known = 0; known < byKnown.length; known++) {
            check.is("earned(0, 9, " + known + ")", byKnown[known], dock.earned(0, 9, known));
        }
        check.is("up to 1", 8, dock.earned(0, 1, 3));
        check.is("up to 0, as known last", 100, dock.earned(0, 0, Integer.MAX_VALUE));
        check.is("up to -1", 0, dock.earned(0, -1, 9));
        check.is("known at -1", 0, dock.earned(0, 9, -1));
        check.is("known least", 0, dock.earned(0, Integer.MAX_VALUE, Integer.MIN_VALUE));
        check.is("another man", 40, dock.earned(1, 2, 9));
        check.is("another man, all", 80, dock.earned(1, Integer.MAX_VALUE, Integer.MAX_VALUE));
        check.is("another man, call 3 not made ahead of 3", 40, dock.earned(1, 9, 3));
    }

    private void want() {
        DockCall dock = new DockCall();
        check.throwsIt("want(-1, 1)", ILLEGAL, () -> dock.want(-1, 1));
        check.throwsIt("want(9, 1)", ILLEGAL, () -> dock.want(9, 1));
        check.throwsIt("want(1, 0)", ILLEGAL, () -> dock.want(1, 0));
        check.throwsIt("want(1, 5)", ILLEGAL, () -> dock.want(1, 5));
        check.is("want(0, 1)", 1, dock.want(0, 1));
        check.is("want(8, 4)", 2, dock.want(8, 4));
        check.is("want(1, 1)", 3, dock.want(1, 1));
        check.is("want(1, 1)", 4, dock.want(1, 1));
        check.is("plan(8)", 4, dock.plan(8));
        check.is("a fifth", DockCall.NONE, dock.want(8, 1));
        check.is("it did not come", 4, dock.plan(8));
        check.throwsIt("a wrong fifth", ILLEGAL, () -> dock.want(9, 1));
    }

    private void unwant() {
        DockCall dock = new DockCall();
        dock.want(8, 1);
        dock.want(8, 1);
        check.is("plan(8)", 16, dock.plan(8));
        check.is("unwant()", 2, dock.unwant());
        check.is("unwant() again", 0, dock.unwant());
        check.is("plan of none", 0, dock.plan(8));
        check.is("want anew", 1, dock.want(2, 1));
        check.is("plan of one", 2, dock.plan(8));
    }

    private void plan() {
        DockCall dock = new DockCall();
        check.throwsIt("plan(0)", ILLEGAL, () -> dock.plan(0));
        check.throwsIt("plan(9)", ILLEGAL, () -> dock.plan(9));
        check.throwsIt("plan(-1)", ILLEGAL, () -> dock.plan(-1));
        dock.want(3, 2);
        check.is("one ship, 1 gang", 3, dock.plan(1));
        check.is("one ship, 8 gangs", 2, dock.plan(8));
        dock.want(1, 1);
        check.is("the short one first", 5, dock.plan(1));
        dock.want(0, 4);
        check.is("none needed, none waited", 5, dock.plan(1));
        dock.unwant();
        // no order of ships served greedily reaches this one
        dock.want(2, 1);
        dock.want(4, 1);
        dock.want(5, 2);
        dock.want(6, 2);
        check.is("no greedy order does", 16, dock.plan(3));
    }

    private void count() {
        DockCall dock = Docks.with(3, "gang 2");
        dock.hatch(0, 45, 0, false);
        dock.hatch(0, 30, 2, false);
        dock.call(0, 0);
        dock.rule(1, 5);
        int[] due = {3, 1, 1, 2, 35, 40, 1, 1, 1, 80};
        for (int what = 0; what < due.length; what++) {
            check.is("count(" + what + ")", due[what], dock.count(what));
        }
        check.is("count(10)", DockCall.NONE, dock.count(10));
        check.is("count(-1)", DockCall.NONE, dock.count(-1));
        dock.call(0, 7);
        int[] then = {3, 1, 2, 2, 35, 40, 1, 2, 1, 80};
        for (int what = 0; what < then.length; what++) {
            check.is("then count(" + what + ")", then[what], dock.count(what));
        }
    }
}
