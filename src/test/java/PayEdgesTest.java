/** The boundaries of pay and of promises 14 to 16 and 20: entry, rule, earned, count. */
public final class PayEdgesTest {
    private static final int MIN = Integer.MIN_VALUE;
    private static final int MAX = Integer.MAX_VALUE;

    private final Check check = new Check("edges of pay");

    public static void main(String[] args) {
        PayEdgesTest test = new PayEdgesTest();
        test.payTimesWorked();
        test.roundedDown();
        test.belowBroken();
        test.entriesKept();
        test.entriesCutInAGang();
        test.orderOfEntries();
        test.noSuchEntry();
        test.anotherWhatOfEntry();
        test.knownMoneyOfEntry();
        test.moneyIsNone();
        test.ruledAHundredTimes();
        test.fromTheNextCallOn();
        test.laterRulingCounts();
        test.earnedOfNoMan();
        test.earnedUpTo();
        test.earnedAsKnown();
        test.earnedOfMuch();
        test.countsOther();
        test.countsByOne();
        test.moneyOfAllPay();
        test.check.end();
    }

    private void payIs(int due, String text, int tons, boolean dry, int rain) {
        DockCall dock = Docks.with(1, "gang 1;" + text);
        dock.hatch(0, tons, 0, dry);
        dock.call(rain, 0);
        check.is("'" + text + "' for " + tons + (dry ? " dry" : " wet") + ", rain " + rain, due, dock.entry(0, 2));
    }

    private void payTimesWorked() {
        check.sentence("PAY times WORKED");
        for (int pay : new int[] {0, 1, 10, 999, 1000}) {
            String text = "broken 0;pay " + pay;
            payIs(pay, text, 1, false, 0);
            payIs(pay, text, 10, false, 15);
            payIs(2 * pay, text, 11, false, 0);
            payIs(3 * pay, text, 30, false, 0);
            payIs(4 * pay, text, 31, false, 0);
            payIs(4 * pay, text, 40, false, 0);
            payIs(4 * pay, text, 41, false, 0);
        }
        check.sentence("PAY at first 10, RAIN at first 50");
        DockCall fresh = Docks.with(1, "gang 1");
        fresh.hatch(0, 2000, 0, true);
        fresh.call(1, 0);
        check.is("three hours and a half", 35, fresh.entry(0, 2));
    }

    private void roundedDown() {
        check.sentence("PAY times RAINED times RAIN by 100, rounded down");
        payIs(3, "pay 1;rain 99", 2000, true, 15);
        payIs(4, "pay 1;rain 100", 2000, true, 15);
        payIs(0, "pay 1;rain 24", 2000, true, 15);
        payIs(1, "pay 1;rain 25", 2000, true, 15);
        payIs(1, "pay 1;rain 26", 2000, true, 15);
        payIs(0, "pay 1000;rain 0", 2000, true, 15);
        payIs(40, "pay 1000;rain 1", 2000, true, 15);
        payIs(3, "pay 99;rain 1", 2000, true, 15);
        payIs(4, "pay 100;rain 1", 2000, true, 15);
        payIs(4, "pay 101;rain 1", 2000, true, 15);
        payIs(4000, "pay 1000;rain 100", 2000, true, 15);
        payIs(3, "pay 1;rain 99", 2000, true, 1);
        payIs(3 + 1, "pay 1;rain 100", 2000, true, 1);
        // once for all hours: two halves are one whole
        payIs(2 * 5 + 1, "pay 5;rain 10", 2000, true, 3);
    }

    /** Behind so many worked hours of ten tons. */
    private void belowBroken() {
        check.sentence("if WORKED and RAINED together are below BROKEN, PAY times the hours up to BROKEN more");
        for (int broken = 0; broken <= 4; broken++) {
            for (int hours = 1; hours <= 4; hours++) {
                payIs(7 * Math.max(broken, hours), "pay 7;broken " + broken, 10 * hours, false, 0);
            }
        }
        // one rained and one worked hour, paid 5 and 10
        payIs(15, "broken 0", 10, true, 1);
        payIs(15, "broken 1", 10, true, 1);
        payIs(15, "broken 2", 10, true, 1);
        payIs(25, "broken 3", 10, true, 1);
        payIs(35, "broken 4", 10, true, 1);
        payIs(20, "broken 4", 2000, true, 15);
        check.sentence("BROKEN at first 2");
        payIs(20, "pay 10", 10, false, 0);
        payIs(20, "pay 10", 20, false, 0);
        payIs(30, "pay 10", 30, false, 0);
    }

    private void entriesKept() {
        check.sentence("at most 800 are kept; what would be more is not");
        DockCall dock = Docks.with(2, "gang 2;rate 0 1", 2000);
        Docks.calls(dock, 399);
        check.is("entries of 399 calls", 798, dock.count(3));
        check.throwsIt("entry(798, 0)", Docks.OUTSIDE, () -> dock.entry(798, 0));
        dock.call(0, 0);
        check.is("entries of 400 calls", 800, dock.count(3));
        check.is("the last one's call", 399, dock.entry(799, 0));
        check.is("the last one's card", 1, dock.entry(799, 1));
        dock.call(0, 0);
        check.is("entries of 401 calls", 800, dock.count(3));
        check.throwsIt("entry(800, 0)", Docks.OUTSIDE, () -> dock.entry(800, 0));
        check.throwsIt("rule(800, 0)", Docks.OUTSIDE, () -> dock.rule(800, 0));
        check.is("rule(799, 0)", true, dock.rule(799, 0));
        check.is("the last stays as it was made", 40, dock.entry(799, 2));
        check.is("turns go on", 401, dock.look(0, 1));
        check.is("gangs go on", 401, dock.count(6));
        check.is("tons go on", 4 * 401, dock.count(5));
        check.is("earned of the kept ones", 400 * 40, dock.earned(0, MAX, MAX));
        check.is("earned of the kept ones, one ruled", 399 * 40, dock.earned(1, MAX, MAX));
    }

    private void entriesCutInAGang() {
        check.sentence("what would be more is not (in the middle of a gang)");
        DockCall dock = Docks.with(3, "gang 3;rate 0 1", 2000);
        Docks.calls(dock, 266);
        check.is("entries of 266 calls", 798, dock.count(3));
        dock.call(0, 0);
        check.is("entries of 267 calls", 800, dock.count(3));
        check.is("the last one's call", 266, dock.entry(799, 0));
        check.is("the last one's card", 1, dock.entry(799, 1));
        int[] earned = {267 * 40, 267 * 40, 266 * 40};
        for (int card = 0; card < 3; card++) {
            check.is("turns of " + card, 267, dock.look(card, 1));
            check.is("earned of " + card, earned[card], dock.earned(card, MAX, MAX));
        }
    }

    private void orderOfEntries() {
        check.sentence("by SHIPS and HATCHES in the order of (a), of a GANG by the order in which they came into it");
        DockCall dock = Docks.with(6, "gang 2;rate 0 1;first tons", 100);
        dock.hatch(0, 100, 0, false);
        dock.ship();
        dock.hatch(1, 1000, 0, false);
        dock.call(0, 1 | 4);
        int[] cards = {1, 3, 4, 5};
        check.is("two gangs of four men", 4, dock.count(3));
        for (int entry = 0; entry < 4; entry++) {
            check.is("card of " + entry, cards[entry], dock.entry(entry, 1));
        }
        check.is("ship 1 has the most tons", 1, dock.look(1, 4));
        check.is("then ship 0", 0, dock.look(4, 4));
        DockCall turns = Docks.with(3, "gang 2;rate 0 1", 2000);
        Docks.calls(turns, 2);
        check.is("card 2 came ahead of card 0", 2, turns.entry(2, 1));
        check.is("card 0", 0, turns.entry(3, 1));
    }

    private void noSuchEntry() {
        check.sentence("entry, rule: there is no such ENTRY");
        DockCall dock = Docks.with(2, "gang 1;rate 0 1", 2000);
        check.throwsIt("entry(0, 0) of none", Docks.OUTSIDE, () -> dock.entry(0, 0));
        check.throwsIt("rule(0, 0) of none", Docks.OUTSIDE, () -> dock.rule(0, 0));
        Docks.calls(dock, 2);
        for (int none : new int[] {-1, 2, 3, 800, MIN, MAX}) {
            check.throwsIt("entry(" + none + ", 0)", Docks.OUTSIDE, () -> dock.entry(none, 0));
            check.throwsIt("entry(" + none + ", 4)", Docks.OUTSIDE, () -> dock.entry(none, 4));
            check.throwsIt("rule(" + none + ", 0)", Docks.OUTSIDE, () -> dock.rule(none, 0));
            check.throwsIt("rule(" + none + ", -1)", Docks.OUTSIDE, () -> dock.rule(none, -1));
        }
        check.is("ruled", 0, dock.count(8));
        check.is("the first", 0, dock.entry(0, 1));
        check.is("the last", 1, dock.entry(1, 1));
        check.is("rule(0, 0)", true, dock.rule(0, 0));
        check.is("rule(1, 0)", true, dock.rule(1, 0));
    }

    private void anotherWhatOfEntry() {
        check.sentence("entry: NoSuchElementException: another what");
        DockCall dock = Docks.with(1, "gang 1;rate 0 1", 2000);
        Docks.calls(dock, 2);
        int[] due = {1, 0, 40, 40};
        for (int what = 0; what <= 3; what++) {
            check.is("entry(1, " + what + ")", due[what], dock.entry(1, what));
        }
        for (int none : new int[] {-1, 4, 5, MIN, MAX}) {
            check.throwsIt("entry(1, " + none + ")", Docks.NO_SUCH, () -> dock.entry(1, none));
        }
    }

    private void knownMoneyOfEntry() {
        check.sentence("2 MONEY as it was made, 3 MONEY as known ahead of the next CALL and what was ruled since");
        DockCall dock = Docks.with(1, "gang 1;rate 0 1", 2000);
        dock.call(0, 0);
        check.is("not ruled", 40, dock.entry(0, 3));
        dock.rule(0, 1);
        check.is("ruled since", 1, dock.entry(0, 3));
        dock.call(0, 0);
        check.is("behind the next call", 1, dock.entry(0, 3));
        check.is("another entry", 40, dock.entry(1, 3));
        dock.rule(0, 2);
        dock.rule(0, 3);
        check.is("ruled again", 3, dock.entry(0, 3));
        check.is("as it was made", 40, dock.entry(0, 2));
        dock.rule(0, 40);
        check.is("ruled back", 40, dock.entry(0, 3));
    }

    private void moneyIsNone() {
        check.sentence("IllegalArgumentException: money is not 0 to 100000");
        DockCall dock = Docks.with(1, "gang 1", 2000);
        dock.call(0, 0);
        for (int none : new int[] {-1, -100000, 100001, 100002, MIN, MAX}) {
            check.throwsIt("rule(0, " + none + ")", Docks.ILLEGAL, () -> dock.rule(0, none));
        }
        check.is("ruled", 0, dock.count(8));
        check.is("known", 40, dock.entry(0, 3));
        int ruled = 0;
        for (int money : new int[] {0, 1, 99999, 100000}) {
            check.is("rule(0, " + money + ")", true, dock.rule(0, money));
            check.is("known", money, dock.entry(0, 3));
            check.is("earned", money, dock.earned(0, 0, 1));
            ruled++;
            check.is("ruled", ruled, dock.count(8));
        }
    }

    private void ruledAHundredTimes() {
        check.sentence("false, and nothing happens, if that was done 100 times in all");
        DockCall dock = Docks.with(1, "gang 1", 2000);
        Docks.calls(dock, 2);
        for (int times = 1; times <= 100; times++) {
            check.is("ruling " + times, true, dock.rule(times % 2, times));
            check.is("ruled", times, dock.count(8));
        }
        dock.call(0, 0);
        for (int times = 101; times <= 103; times++) {
            check.is("ruling " + times, false, dock.rule(times % 3, 7));
        }
        check.is("ruled", 100, dock.count(8));
        check.is("entry 0", 100, dock.entry(0, 3));
        check.is("entry 1", 99, dock.entry(1, 3));
        check.is("entry 2", 40, dock.entry(2, 3));
        check.is("earned", 239, dock.earned(0, MAX, MAX));
        check.throwsIt("money -1 then", Docks.ILLEGAL, () -> dock.rule(0, -1));
        check.throwsIt("entry 3 then", Docks.OUTSIDE, () -> dock.rule(3, 0));
    }

    /** Entry 0 of call 0 is ruled when three calls were: known from K = 3 on. */
    private void fromTheNextCallOn() {
        check.sentence("from the next CALL on (for all K from its number on) it is known to be of another MONEY");
        DockCall dock = Docks.with(1, "gang 1;rate 0 1", 2000);
        Docks.calls(dock, 3);
        dock.rule(0, 7);
        Docks.calls(dock, 3);
        int[] byKnown = {0, 40, 40, 7, 7, 7, 7, 7};
        for (int known = 0; known < byKnown.length; known++) {
            check.is("earned(0, 0, " + known + ")", byKnown[known], dock.earned(0, 0, known));
        }
        check.is("known at MAX", 7, dock.earned(0, 0, MAX));
        DockCall atOnce = Docks.with(1, "gang 1;rate 0 1", 2000);
        atOnce.call(0, 0);
        atOnce.rule(0, 7);
        check.is("ruled behind its own call, K = 0", 0, atOnce.earned(0, 0, 0));
        check.is("K = 1", 7, atOnce.earned(0, 0, 1));
        check.is("K = 2", 7, atOnce.earned(0, 0, 2));
    }

    private void laterRulingCounts() {
        check.sentence("an ENTRY may be ruled anew");
        DockCall dock = Docks.with(1, "gang 1;rate 0 1", 2000);
        dock.call(0, 0);
        dock.call(0, 0);
        dock.rule(0, 5);
        dock.rule(1, 6);
        dock.rule(0, 7);
        dock.call(0, 0);
        dock.call(0, 0);
        dock.rule(0, 9);
        dock.rule(0, 8);
        int[] first = {0, 40, 7, 7, 8, 8};
        int[] both = {0, 40, 13, 13, 14, 14};
        for (int known = 0; known < first.length; known++) {
            check.is("earned(0, 0, " + known + ")", first[known], dock.earned(0, 0, known));
            check.is("earned(0, 1, " + known + ")", both[known], dock.earned(0, 1, known));
        }
    }

    private void earnedOfNoMan() {
        check.sentence("earned: there is no such man");
        DockCall dock = new DockCall();
        check.throwsIt("without men", Docks.OUTSIDE, () -> dock.earned(0, 0, 0));
        dock.man(1);
        dock.man(1);
        for (int none : new int[] {-1, 2, 24, MIN, MAX}) {
            check.throwsIt("earned(" + none + ", 0, 0)", Docks.OUTSIDE, () -> dock.earned(none, 0, 0));
        }
        check.is("the first", 0, dock.earned(0, 0, 0));
        check.is("the last", 0, dock.earned(1, MAX, MAX));
    }

    /** Money of calls 0 to 4 is 10, 20, 30, 40, 40: one hatch a call. */
    private static DockCall fiveCalls() {
        DockCall dock = Docks.with(1, "gang 1;broken 0");
        dock.ship();
        int[] tons = {10, 20, 30, 40, 40};
        for (int call = 0; call < tons.length; call++) {
            dock.hatch(call / 4, tons[call], 0, false);
            dock.call(0, 0);
        }
        return dock;
    }

    private void earnedUpTo() {
        check.sentence("the sum of his ENTRIES of CALLS up to C");
        DockCall dock = fiveCalls();
        int[] sums = {10, 30, 60, 100, 140, 140, 140};
        for (int upTo = 0; upTo < sums.length; upTo++) {
            check.is("up to " + upTo, sums[upTo], dock.earned(0, upTo, 5));
        }
        check.is("up to -1", 0, dock.earned(0, -1, 5));
        check.is("up to MIN", 0, dock.earned(0, MIN, 5));
        check.is("up to MAX", 140, dock.earned(0, MAX, 5));
    }

    private void earnedAsKnown() {
        check.sentence("those that were made at K or later left out");
        DockCall dock = fiveCalls();
        int[] sums = {0, 10, 30, 60, 100, 140, 140, 140};
        for (int known = 0; known < sums.length; known++) {
            check.is("known at " + known, sums[known], dock.earned(0, 4, known));
            check.is("known at " + known + ", up to 1", Math.min(30, sums[known]), dock.earned(0, 1, known));
        }
        check.is("known at -1", 0, dock.earned(0, 4, -1));
        check.is("known at MIN", 0, dock.earned(0, MAX, MIN));
        check.is("known at MAX", 140, dock.earned(0, MAX, MAX));
        check.is("MIN and MAX", 0, dock.earned(0, MIN, MAX));
        dock.man(1);
        check.is("of a man without entries", 0, dock.earned(1, MAX, MAX));
    }

    private void earnedOfMuch() {
        check.sentence("EARNED of entries ruled to the most there is");
        DockCall dock = Docks.with(1, "gang 1;rate 0 1", 2000);
        Docks.calls(dock, 120);
        for (int entry = 0; entry < 100; entry++) {
            dock.rule(entry, 100000);
        }
        check.is("a hundred times the most", 100 * 100000 + 20 * 40, dock.earned(0, MAX, MAX));
        check.is("as known ahead of the rulings", 119 * 40, dock.earned(0, MAX, 119));
        check.is("all pay as it was made", 120 * 40, dock.count(9));
    }

    private void countsOther() {
        check.sentence("NONE for another what");
        DockCall dock = new DockCall();
        for (int what = 0; what <= 9; what++) {
            check.is("count(" + what + ")", 0, dock.count(what));
        }
        for (int none : new int[] {-1, 10, 11, -10, MIN, MAX}) {
            check.is("count(" + none + ")", DockCall.NONE, dock.count(none));
        }
    }

    /** What each step adds, and that it adds to nothing else. */
    private void countsByOne() {
        check.sentence("0 men, 1 SHIPS, 2 CALLS, 3 ENTRIES, 4 TONS left, 5 moved, 6 GANGS, 7 idle, 8 ruled, 9 pay");
        DockCall dock = new DockCall();
        Texts.agree(dock, "gang 1");
        countsAre(dock, "at first", 0, 0, 0, 0, 0, 0, 0, 0, 0, 0);
        dock.man(1);
        countsAre(dock, "a man", 1, 0, 0, 0, 0, 0, 0, 0, 0, 0);
        dock.ship();
        countsAre(dock, "a ship", 1, 1, 0, 0, 0, 0, 0, 0, 0, 0);
        dock.hatch(0, 60, 0, false);
        dock.hatch(0, 50, 0, false);
        countsAre(dock, "hatches", 1, 1, 0, 0, 110, 0, 0, 0, 0, 0);
        dock.call(0, 0);
        countsAre(dock, "a call", 1, 1, 1, 1, 70, 40, 1, 1, 0, 40);
        dock.rule(0, 1);
        countsAre(dock, "a ruling", 1, 1, 1, 1, 70, 40, 1, 1, 1, 40);
        dock.call(0, 0);
        countsAre(dock, "another call", 1, 1, 2, 2, 50, 60, 2, 1, 1, 60);
        dock.call(0, 1);
        countsAre(dock, "nobody comes", 1, 1, 3, 2, 50, 60, 2, 1, 1, 60);
        dock.want(8, 4);
        countsAre(dock, "a ship of the plan", 1, 1, 3, 2, 50, 60, 2, 1, 1, 60);
    }

    private void countsAre(DockCall dock, String when, int... due) {
        for (int what = 0; what < due.length; what++) {
            check.is("count(" + what + ") behind " + when, due[what], dock.count(what));
        }
    }

    /** All pay, also what is not kept as an entry: see NOTES.md. */
    private void moneyOfAllPay() {
        check.sentence("MONEY of all pay as it was made");
        DockCall dock = Docks.with(24, "gang 8;rate 0 1;pay 1000");
        for (int hatch = 0; hatch < 3; hatch++) {
            dock.hatch(0, 2000, 0, false);
        }
        for (int calls = 1; calls <= 36; calls++) {
            dock.call(0, 0);
            check.is("entries", Math.min(800, 24 * calls), dock.count(3));
            check.is("pay of " + calls + " calls", 24 * 4000 * calls, dock.count(9));
        }
    }
}
