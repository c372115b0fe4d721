/** The boundaries of promises 17 to 19: want, unwant, plan. */
public final class PlanEdgesTest {
    private static final int MIN = Integer.MIN_VALUE;
    private static final int MAX = Integer.MAX_VALUE;

    private final Check check = new Check("edges of the plan");

    public static void main(String[] args) {
        PlanEdgesTest test = new PlanEdgesTest();
        test.gangCallsAreNone();
        test.mostIsNone();
        test.fourShips();
        test.wrongFifth();
        test.howManyThereWere();
        test.gangsAreNone();
        test.planOfNone();
        test.needsNone();
        test.oneShip();
        test.atMostACall();
        test.gangsACall();
        test.fullPlan();
        test.leastSum();
        test.planIsAskedAnew();
        test.planIsNotTheDock();
        test.check.end();
    }

    private static DockCall wanting(int... gangsAndMost) {
        DockCall dock = new DockCall();
        for (int i = 0; i + 1 < gangsAndMost.length; i += 2) {
            dock.want(gangsAndMost[i], gangsAndMost[i + 1]);
        }
        return dock;
    }

    private void gangCallsAreNone() {
        check.sentence("a number of GANG-CALLS (0 to 8)");
        for (int none : new int[] {-1, 9, 10, -8, MIN, MAX}) {
            DockCall dock = new DockCall();
            check.throwsIt("want(" + none + ", 1)", Docks.ILLEGAL, () -> dock.want(none, 1));
            check.is("it did not come", 0, dock.unwant());
        }
        for (int gangs = 0; gangs <= 8; gangs++) {
            DockCall dock = new DockCall();
            check.is("want(" + gangs + ", 1)", 1, dock.want(gangs, 1));
            check.is("its plan", gangs, dock.plan(1));
        }
    }

    private void mostIsNone() {
        check.sentence("how many GANGS at most it takes a CALL (1 to 4)");
        for (int none : new int[] {-1, 0, 5, 6, MIN, MAX}) {
            DockCall dock = new DockCall();
            check.throwsIt("want(0, " + none + ")", Docks.ILLEGAL, () -> dock.want(0, none));
            check.throwsIt("want(9, " + none + ")", Docks.ILLEGAL, () -> dock.want(9, none));
            check.is("it did not come", 0, dock.unwant());
        }
        int[] waits = {8, 4, 3, 2};
        for (int most = 1; most <= 4; most++) {
            DockCall dock = new DockCall();
            check.is("want(8, " + most + ")", 1, dock.want(8, most));
            check.is("its plan", waits[most - 1], dock.plan(8));
        }
    }

    private void fourShips() {
        check.sentence("how many there are; NONE, and it does not come, if there are 4");
        DockCall dock = new DockCall();
        for (int ships = 1; ships <= 4; ships++) {
            check.is("want", ships, dock.want(1, 1));
            check.is("plan(8)", ships, dock.plan(8));
        }
        check.is("the fifth", DockCall.NONE, dock.want(1, 1));
        check.is("the fifth, of none", DockCall.NONE, dock.want(0, 4));
        check.is("plan(8) then", 4, dock.plan(8));
        check.is("plan(1) then", 10, dock.plan(1));
        check.is("there were", 4, dock.unwant());
        check.is("the first anew", 1, dock.want(2, 1));
    }

    private void wrongFifth() {
        check.sentence("want: IllegalArgumentException: a number is none (with four ships too)");
        DockCall dock = wanting(1, 1, 1, 1, 1, 1, 1, 1);
        check.throwsIt("want(9, 1)", Docks.ILLEGAL, () -> dock.want(9, 1));
        check.throwsIt("want(-1, 1)", Docks.ILLEGAL, () -> dock.want(-1, 1));
        check.throwsIt("want(1, 0)", Docks.ILLEGAL, () -> dock.want(1, 0));
        check.throwsIt("want(1, 5)", Docks.ILLEGAL, () -> dock.want(1, 5));
        check.is("plan(1)", 10, dock.plan(1));
    }

    private void howManyThereWere() {
        check.sentence("No SHIPS for the PLAN any more: how many there were");
        DockCall dock = new DockCall();
        check.is("of a new object", 0, dock.unwant());
        for (int ships = 0; ships <= 4; ships++) {
            for (int i = 0; i < ships; i++) {
                dock.want(8, 1);
            }
            check.is("there were", ships, dock.unwant());
            check.is("none any more", 0, dock.unwant());
            check.is("plan(1) of none", 0, dock.plan(1));
        }
    }

    private void gangsAreNone() {
        check.sentence("K GANGS a CALL (1 to 8); IllegalArgumentException: K is none");
        DockCall dock = wanting(8, 4, 8, 4);
        for (int none : new int[] {-1, 0, 9, 10, MIN, MAX}) {
            check.throwsIt("plan(" + none + ")", Docks.ILLEGAL, () -> dock.plan(none));
            check.throwsIt("plan(" + none + ") of none", Docks.ILLEGAL, () -> new DockCall().plan(none));
        }
        // one ship behind the other; from 5 on what the first leaves goes to the second
        int[] due = {24, 12, 9, 6, 6, 5, 5, 4};
        for (int gangs = 1; gangs <= 8; gangs++) {
            check.is("plan(" + gangs + ")", due[gangs - 1], dock.plan(gangs));
        }
    }

    private void planOfNone() {
        check.sentence("PLAN is the least sum of all waiting (of no ships)");
        DockCall dock = new DockCall();
        for (int gangs = 1; gangs <= 8; gangs++) {
            check.is("plan(" + gangs + ")", 0, dock.plan(gangs));
        }
    }

    private void needsNone() {
        check.sentence("0 of one that needs none");
        DockCall dock = wanting(0, 1);
        check.is("alone", 0, dock.plan(1));
        dock.want(1, 1);
        check.is("with one that needs one", 1, dock.plan(1));
        dock.want(0, 4);
        check.is("and another that needs none", 1, dock.plan(1));
        dock.want(8, 1);
        check.is("and one that needs eight", 1 + 9, dock.plan(1));
        check.is("four that need none", 0, wanting(0, 1, 0, 2, 0, 3, 0, 4).plan(8));
    }

    private void oneShip() {
        check.sentence("A SHIP's waiting is the number of CALLS up to that at which it has had all");
        for (int need = 0; need <= 8; need++) {
            for (int most = 1; most <= 4; most++) {
                DockCall dock = wanting(need, most);
                for (int gangs = 1; gangs <= 8; gangs++) {
                    int aCall = Math.min(most, gangs);
                    check.is(need + " by " + most + " with " + gangs, (need + aCall - 1) / aCall, dock.plan(gangs));
                }
            }
        }
    }

    private void atMostACall() {
        check.sentence("how many GANGS at most it takes a CALL");
        check.is("4 by 4 with 4", 1, wanting(4, 4).plan(4));
        check.is("5 by 4 with 8", 2, wanting(5, 4).plan(8));
        check.is("4 by 3 with 8", 2, wanting(4, 3).plan(8));
        check.is("3 by 3 with 8", 1, wanting(3, 3).plan(8));
        check.is("3 by 2 with 8", 2, wanting(3, 2).plan(8));
        check.is("2 by 1 with 8", 2, wanting(2, 1).plan(8));
        check.is("gangs that one does not take go to another", 2 + 2, wanting(2, 1, 2, 1).plan(2));
        for (int need = 0; need <= 8; need++) {
            check.is("two of " + need + " by 1", 2 * need, wanting(need, 1, need, 1).plan(8));
        }
    }

    private void gangsACall() {
        check.sentence("at each CALL GANGS are sent to SHIPS");
        DockCall four = wanting(1, 1, 1, 1, 1, 1, 1, 1);
        int[] due = {10, 6, 5, 4, 4};
        for (int gangs = 1; gangs <= 5; gangs++) {
            check.is("four of one with " + gangs, due[gangs - 1], four.plan(gangs));
        }
        DockCall wide = wanting(4, 4, 4, 4);
        check.is("7 are one too few for both", 3, wide.plan(7));
        check.is("8 are enough for both", 2, wide.plan(8));
    }

    private void fullPlan() {
        check.sentence("up to 4 SHIPS, all with the most");
        DockCall dock = wanting(8, 4, 8, 4, 8, 4, 8, 4);
        check.is("plan(1)", 8 + 16 + 24 + 32, dock.plan(1));
        check.is("plan(4)", 2 + 4 + 6 + 8, dock.plan(4));
        check.is("plan(8)", 2 + 2 + 4 + 4, dock.plan(8));
        DockCall narrow = wanting(8, 1, 8, 1, 8, 1, 8, 1);
        check.is("one by one, plan(1)", 80, narrow.plan(1));
        check.is("one by one, plan(4)", 32, narrow.plan(4));
        check.is("one by one, plan(3)", 8 + 8 + 8 + 16, narrow.plan(3));
        check.is("one by one, plan(8)", 32, narrow.plan(8));
    }

    private void leastSum() {
        check.sentence("PLAN is the least sum of all waiting");
        check.is("the short one first", 1 + 9, wanting(8, 1, 1, 1).plan(1));
        check.is("in the other order", 1 + 9, wanting(1, 1, 8, 1).plan(1));
        check.is("short ones first", 1 + 3 + 6 + 10, wanting(4, 4, 3, 4, 2, 4, 1, 4).plan(1));
        check.is("no order of ships served to the full reaches it", 16, wanting(2, 1, 4, 1, 5, 2, 6, 2).plan(3));
        check.is("narrow ones beside a wide one", 4 + 2 + 3, wanting(4, 1, 2, 1, 4, 4).plan(3));
    }

    private void planIsAskedAnew() {
        check.sentence("want, unwant and plan by turns");
        DockCall dock = new DockCall();
        check.is("of none", 0, dock.plan(2));
        dock.want(4, 2);
        check.is("of one", 2, dock.plan(2));
        check.is("asked again", 2, dock.plan(2));
        check.is("with 1", 4, dock.plan(1));
        dock.want(2, 2);
        check.is("of two", 1 + 3, dock.plan(2));
        check.is("of two with 1", 2 + 6, dock.plan(1));
        check.throwsIt("a wrong one", Docks.ILLEGAL, () -> dock.want(9, 2));
        check.is("of two still", 4, dock.plan(2));
        dock.unwant();
        check.is("of none again", 0, dock.plan(2));
        dock.want(1, 1);
        check.is("of another", 1, dock.plan(2));
    }

    private void planIsNotTheDock() {
        check.sentence("SHIPS of the PLAN are not those of the dock");
        DockCall dock = Docks.with(4, "gang 4", 100);
        dock.want(3, 1);
        dock.want(5, 2);
        int plan = dock.plan(2);
        dock.call(0, 0);
        dock.ship();
        check.is("calls leave the plan", plan, dock.plan(2));
        check.is("ships", 2, dock.count(1));
        check.is("unwant()", 2, dock.unwant());
        check.is("ships then", 2, dock.count(1));
        check.is("tons then", 60, dock.count(4));
    }
}
