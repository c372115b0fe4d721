/** The boundaries of promise 10: rain, the unwilling, ships in order, cranes, gangs, bars, hours, turns. */
public final class CallEdgesTest {
    private static final int MIN = Integer.MIN_VALUE;
    private static final int MAX = Integer.MAX_VALUE;
    /** A worked hour counts 100, a rained one 1. */
    private static final String TELLING = "gang 1;pay 100;rain 1;broken 0";

    private final Check check = new Check("edges of calls");

    public static void main(String[] args) {
        CallEdgesTest test = new CallEdgesTest();
        test.rainIsNone();
        test.bitOfHour();
        test.rainStopsDryOnes();
        test.hoursOfEachHatch();
        test.unwillingAsBits();
        test.menThatThereAreNot();
        test.emptyDock();
        test.doneShipsAreNotServed();
        test.firstWaiting();
        test.firstTons();
        test.firstNumber();
        test.hatchesWithTons();
        test.cranesForOneMore();
        test.cranesAtFirst();
        test.gangMenAreThere();
        test.menWithItsSkill();
        test.notInAGangOfIt();
        test.askedByTurns();
        test.askedTillGangIsThere();
        test.barredForTheNext();
        test.barAtFirst();
        test.notAskedAnyMore();
        test.idleWithoutMen();
        test.willingMayBeAskedAgain();
        test.whoRefusedHasRefused();
        test.noCraneIsTaken();
        test.rateOrWhatIsLeft();
        test.behindTheLastTons();
        test.oneTurnMore();
        test.numberedFromZero();
        test.lastOfTheCalls();
        test.check.end();
    }

    private void rainIsNone() {
        check.sentence("rain 0 to 15; IllegalArgumentException: rain is none");
        DockCall dock = Docks.with(1, "gang 1;rate 0 1", 2000);
        for (int none : new int[] {-1, 16, 17, 31, -16, MIN, MIN + 1, MAX}) {
            check.throwsIt("call(" + none + ", 0)", Docks.ILLEGAL, () -> dock.call(none, 0));
        }
        check.is("calls", 0, dock.count(2));
        for (int rain = 0; rain <= 15; rain++) {
            check.is("call(" + rain + ", 0)", 1, dock.call(rain, 0));
        }
        check.is("calls then", 16, dock.count(2));
    }

    /** One dry hatch by 10 tons an hour; money tells worked and rained hours. */
    private void hoursAre(int worked, int rained, int tons, int rain) {
        DockCall dock = Docks.with(1, TELLING);
        dock.hatch(0, tons, 0, true);
        dock.call(rain, 0);
        check.is(tons + " tons, rain " + rain, 100 * worked + rained, dock.entry(0, 2));
        check.is("left of " + tons + " by rain " + rain, Math.max(0, tons - 10 * worked), dock.tons(0, 0));
    }

    private void bitOfHour() {
        check.sentence("bit h of hour h");
        hoursAre(1, 0, 10, 0);
        hoursAre(1, 1, 10, 1);
        hoursAre(1, 0, 10, 2);
        hoursAre(2, 1, 20, 1);
        hoursAre(2, 1, 20, 2);
        hoursAre(2, 0, 20, 4);
        hoursAre(3, 1, 30, 2);
        hoursAre(3, 1, 30, 4);
        hoursAre(3, 0, 30, 8);
        hoursAre(3, 1, 40, 8);
        hoursAre(3, 1, 40, 1);
        hoursAre(4, 0, 40, 0);
        hoursAre(0, 4, 40, 15);
        hoursAre(1, 3, 40, 14);
        hoursAre(1, 3, 10, 7);
        hoursAre(1, 0, 10, 14);
    }

    private void rainStopsDryOnes() {
        check.sentence("rain stops DRY ones");
        for (int rain = 0; rain <= 15; rain++) {
            DockCall dock = Docks.with(2, TELLING);
            dock.hatch(0, 100, 0, false);
            dock.hatch(0, 100, 0, true);
            dock.call(rain, 0);
            int rained = Integer.bitCount(rain);
            check.is("wet by rain " + rain, 60, dock.tons(0, 0));
            check.is("dry by rain " + rain, 60 + 10 * rained, dock.tons(0, 1));
            check.is("pay of the wet one", 400, dock.entry(0, 2));
            check.is("pay of the dry one", 400 - 99 * rained, dock.entry(1, 2));
            check.is("moved", 80 - 10 * rained, dock.count(5));
        }
    }

    /** Each hatch has hours of its own, also behind one that had rained hours. */
    private void hoursOfEachHatch() {
        check.sentence("Hour by hour each HATCH that has a GANG");
        DockCall dock = Docks.with(4, TELLING);
        dock.hatch(0, 100, 0, true);
        dock.hatch(0, 20, 0, false);
        dock.hatch(0, 10, 0, true);
        dock.hatch(0, 100, 0, false);
        check.is("gangs", 4, dock.call(1, 0));
        int[] money = {301, 200, 101, 400};
        int[] left = {70, 0, 0, 60};
        for (int hatch = 0; hatch < 4; hatch++) {
            check.is("pay at hatch " + hatch, money[hatch], dock.entry(hatch, 2));
            check.is("left of hatch " + hatch, left[hatch], dock.tons(0, hatch));
        }
        check.is("two gangs at the next call", 2, dock.call(8, 0));
        check.is("pay at hatch 0", 301, dock.entry(4, 2));
        check.is("pay at hatch 3", 400, dock.entry(5, 2));
    }

    private void unwillingAsBits() {
        check.sentence("unwilling: men as bits");
        for (int card = 0; card < 24; card++) {
            DockCall dock = Docks.with(24, "gang 8", 2000);
            dock.hatch(0, 2000, 0, false);
            dock.hatch(0, 2000, 0, false);
            check.is("gangs without " + card, 2, dock.call(0, 1 << card));
            for (int man = 0; man < 24; man++) {
                check.is("did " + man + " refuse", man == card ? 1 : 0, dock.look(man, 3));
                check.is("is " + man + " barred", man == card ? 1 : 0, dock.look(man, 2));
            }
        }
    }

    private void menThatThereAreNot() {
        check.sentence("those that there are not count for nothing");
        for (int men : new int[] {1, 2, 8, 23, 24}) {
            DockCall dock = Docks.with(men, "gang 1", 2000);
            for (int bit = men; bit < 32; bit++) {
                check.is("bit " + bit + " of " + men + " men", 1, dock.call(0, 1 << bit));
            }
            check.is("all bits but theirs", 1, dock.call(0, -1 << men));
            int refused = 0;
            for (int card = 0; card < men; card++) {
                refused += dock.look(card, 3);
            }
            check.is("refusals", 0, refused);
            check.is("men", men, dock.count(0));
            check.is("all of them", 0, dock.call(0, -1));
        }
        DockCall later = Docks.with(1, "gang 1", 2000);
        later.call(0, 2);
        later.man(1);
        check.is("a man who comes later is not barred", 0, later.look(1, 2));
        later.call(0, 0);
        check.is("and comes", 0, later.look(1, 4));
    }

    private void emptyDock() {
        check.sentence("how many GANGS there were");
        DockCall dock = new DockCall();
        check.is("no men, no ships", 0, dock.call(0, 0));
        dock.man(1);
        check.is("no ships", 0, dock.call(15, -1));
        check.is("who is not asked does not refuse", 0, dock.look(0, 3));
        DockCall ships = new DockCall();
        ships.ship();
        ships.hatch(0, 5, 0, false);
        check.is("no men", 0, ships.call(0, -1));
        check.is("idle", 1, ships.count(7));
        check.is("gangs in all", 0, dock.count(6) + ships.count(6));
        check.is("calls", 2, dock.count(2));
    }

    private void doneShipsAreNotServed() {
        check.sentence("SHIPS that are not DONE");
        DockCall dock = Docks.with(1, "gang 1;cranes 1", 0);
        dock.ship();
        dock.hatch(1, 1, 0, false);
        dock.ship();
        dock.hatch(2, 1, 0, false);
        check.is("first call", 1, dock.call(0, 0));
        check.is("the first that is not done", 1, dock.look(0, 4));
        check.is("second call", 1, dock.call(0, 0));
        check.is("then the next", 2, dock.look(0, 4));
        check.is("third call", 0, dock.call(0, 0));
    }

    /** A ship told at each of three calls, all with the same tons; a crane tells which is the first. */
    private void firstWaiting() {
        check.sentence("waiting: the lesser CAME ahead; of several the lesser number");
        DockCall dock = Docks.with(1, "gang 1;cranes 1;rate 0 1");
        dock.ship();
        dock.call(0, 0);
        dock.ship();
        dock.hatch(2, 4, 0, false);
        dock.hatch(1, 4, 0, false);
        dock.hatch(0, 4, 0, false);
        int[] due = {0, 1, 2};
        for (int ship : due) {
            dock.call(0, 0);
            check.is("the next ship", ship, dock.look(0, 4));
        }
        DockCall more = Docks.with(1, "gang 1;cranes 1;rate 0 1", 5);
        more.call(0, 0);
        more.ship();
        more.hatch(1, 2000, 0, false);
        more.call(0, 0);
        check.is("one call earlier, fewer tons", 0, more.look(0, 4));
    }

    private void firstTons() {
        check.sentence("tons: the more TONS in all its HATCHES; of several the lesser number");
        int[][] tons = {{7, 7, 0}, {14, 0, 0}, {5, 5, 5}, {4, 5, 6}};
        int[] due = {2, 3, 0, 1};
        DockCall dock = Docks.with(1, "gang 1;cranes 1;rate 0 500;first tons");
        dock.ship();
        dock.ship();
        dock.ship();
        for (int ship = 0; ship < 4; ship++) {
            for (int part : tons[ship]) {
                dock.hatch(ship, part, 0, false);
            }
        }
        dock.call(0, 0);
        check.is("15 ahead of 14, the lesser number", due[0], dock.look(0, 4));
        check.is("its hatch", 0, dock.look(0, 5));
        dock.call(0, 0);
        check.is("15 of ship 3, as ship 2 has 10", due[1], dock.look(0, 4));
        dock.call(0, 0);
        check.is("14 of ship 0", due[2], dock.look(0, 4));
        dock.call(0, 0);
        check.is("14 of ship 1", due[3], dock.look(0, 4));
        dock.call(0, 0);
        check.is("11 of ship 3", 3, dock.look(0, 4));
        dock.call(0, 0);
        check.is("10 of ship 2", 2, dock.look(0, 4));
    }

    private void firstNumber() {
        check.sentence("number: the lesser number");
        DockCall dock = Docks.with(1, "gang 1;cranes 1;rate 0 500;first number");
        dock.call(0, 0);
        dock.ship();
        dock.ship();
        dock.hatch(2, 2000, 0, false);
        dock.hatch(1, 2000, 0, false);
        dock.hatch(0, 1, 0, false);
        for (int ship = 0; ship < 3; ship++) {
            dock.call(0, 0);
            check.is("the next ship", ship, dock.look(0, 4));
        }
    }

    private void hatchesWithTons() {
        check.sentence("Their HATCHES in order, each with TONS");
        DockCall dock = Docks.with(4, "gang 1");
        dock.hatch(0, 0, 0, false);
        dock.hatch(0, 1, 0, false);
        dock.hatch(0, 0, 0, false);
        dock.hatch(0, 2, 0, false);
        check.is("gangs", 2, dock.call(0, 0));
        check.is("card 0", 1, dock.look(0, 5));
        check.is("card 1", 3, dock.look(1, 5));
        check.is("card 2", DockCall.NONE, dock.look(2, 5));
        check.is("idle", 0, dock.count(7));
    }

    /** So many hatches of 2000 tons by fours on ships. */
    private static DockCall hatches(int men, String text, int hatches) {
        DockCall dock = Docks.with(men, text);
        for (int i = 0; i < hatches; i++) {
            if (i % 4 == 0 && i > 0) {
                dock.ship();
            }
            dock.hatch(i / 4, 2000, 0, false);
        }
        return dock;
    }

    private void cranesForOneMore() {
        check.sentence("as long as there are CRANES for one more GANG");
        for (int cranes : new int[] {1, 2, 3, 4, 5, 8, 11, 12}) {
            for (int hatches = cranes - 1; hatches <= cranes + 1; hatches++) {
                DockCall dock = hatches(24, "gang 1;cranes " + cranes, hatches);
                int due = Math.min(cranes, hatches);
                check.is(cranes + " cranes, " + hatches + " hatches", due, dock.call(0, 0));
                check.is("gangs in all", due, dock.count(6));
                check.is("idle is for want of men alone", 0, dock.count(7));
                check.is("the last who comes", 1, due == 0 ? 1 : dock.look(due - 1, 1));
                check.is("the next one does not", 0, dock.look(due, 1));
                check.is("tons moved", 40 * due, dock.count(5));
            }
        }
    }

    private void cranesAtFirst() {
        check.sentence("CRANES at first 12, GANG at first 4");
        DockCall dock = hatches(24, "gang 4", 40);
        check.is("24 men by fours", 6, dock.call(0, 0));
        check.is("idle", 34, dock.count(7));
        DockCall ones = hatches(24, "gang 1", 40);
        check.is("24 men one by one", 12, ones.call(0, 0));
        check.is("none idle", 0, ones.count(7));
        DockCall fresh = new DockCall();
        fresh.ship();
        fresh.hatch(0, 1, 0, false);
        for (int men = 0; men < 4; men++) {
            check.is(men + " men", 0, fresh.call(0, 0));
            fresh.man(1);
        }
        check.is("4 men", 1, fresh.call(0, 0));
    }

    private void gangMenAreThere() {
        check.sentence("till GANG men are there. If there are not so many no GANG comes");
        for (int gang = 1; gang <= 8; gang++) {
            for (int men = gang - 1; men <= gang + 1; men++) {
                DockCall dock = Docks.with(men, "gang " + gang, 2000);
                int due = men >= gang ? 1 : 0;
                check.is("gang " + gang + ", " + men + " men", due, dock.call(0, 0));
                check.is("idle", 1 - due, dock.count(7));
                check.is("entries", due * gang, dock.count(3));
                for (int card = 0; card < men; card++) {
                    boolean comes = due == 1 && card < gang;
                    check.is("turns of " + card, comes ? 1 : 0, dock.look(card, 1));
                    check.is("ship of " + card, comes ? 0 : DockCall.NONE, dock.look(card, 4));
                }
            }
            DockCall two = hatches(2 * gang, "gang " + gang, 3);
            check.is("twice gang " + gang, 2, two.call(0, 0));
            DockCall lessOne = hatches(2 * gang - 1, "gang " + gang, 3);
            check.is("twice gang " + gang + " less one", 1, lessOne.call(0, 0));
            check.is("idle then", 2, lessOne.count(7));
        }
    }

    private void menWithItsSkill() {
        check.sentence("the men with its SKILL");
        for (int skill = 0; skill <= 3; skill++) {
            for (int skills = 1; skills <= 15; skills++) {
                DockCall dock = new DockCall();
                dock.man(skills);
                Texts.agree(dock, "gang 1");
                dock.ship();
                dock.hatch(0, 9, skill, false);
                boolean fits = (skills & 1 << skill) != 0;
                check.is("skills " + skills + " for " + skill, fits ? 1 : 0, dock.call(0, 0));
                dock.hatch(0, 2000, skill, false);
                dock.call(0, 1);
                check.is("asked with " + skills + " for " + skill, fits ? 1 : 0, dock.look(0, 3));
            }
        }
    }

    private void notInAGangOfIt() {
        check.sentence("nor in a GANG of it");
        DockCall dock = hatches(3, "gang 2", 2);
        check.is("the third alone is left", 1, dock.call(0, 0));
        check.is("card 0", 0, dock.look(0, 5));
        check.is("card 1", 0, dock.look(1, 5));
        check.is("card 2", DockCall.NONE, dock.look(2, 5));
        check.is("idle", 1, dock.count(7));
        dock.call(0, 0);
        check.is("at the next call he is asked first", 0, dock.look(2, 5));
        check.is("and then card 0", 0, dock.look(0, 5));
        check.is("not card 1", DockCall.NONE, dock.look(1, 5));
    }

    private void askedByTurns() {
        check.sentence("asked by TURNS (the fewer first), then by cards");
        DockCall dock = Docks.with(3, "gang 2;rate 0 1", 2000);
        int[][] due = {{0, 1}, {2, 0}, {1, 2}, {0, 1}, {2, 0}};
        for (int call = 0; call < due.length; call++) {
            dock.call(0, 0);
            check.is("first at call " + call, due[call][0], dock.entry(2 * call, 1));
            check.is("second at call " + call, due[call][1], dock.entry(2 * call + 1, 1));
        }
        dock.man(1);
        dock.call(0, 0);
        check.is("0 turns ahead of 3", 3, dock.entry(10, 1));
        check.is("3 turns ahead of 4", 1, dock.entry(11, 1));
        dock.call(0, 0);
        check.is("1 turn", 3, dock.entry(12, 1));
        check.is("3 turns", 2, dock.entry(13, 1));
    }

    /** The man who would fill the gang is asked; the one behind him is not. */
    private void askedTillGangIsThere() {
        check.sentence("are asked ... till GANG men are there");
        DockCall dock = Docks.with(5, "gang 3", 2000);
        check.is("1 and 4 are unwilling", 1, dock.call(0, 2 | 16));
        int[] refused = {0, 1, 0, 0, 0};
        for (int card = 0; card < 5; card++) {
            check.is("refusals of " + card, refused[card], dock.look(card, 3));
        }
        DockCall last = Docks.with(5, "gang 3", 2000);
        check.is("2 is unwilling", 1, last.call(0, 4));
        check.is("2 would have been the third", 1, last.look(2, 3));
        check.is("3 comes for him", 0, last.look(3, 4));
        check.is("4 does not", DockCall.NONE, last.look(4, 4));
        DockCall behind = Docks.with(5, "gang 3", 2000);
        behind.call(0, 8 | 16);
        check.is("3 is behind the third", 0, behind.look(3, 3));
        check.is("4 too", 0, behind.look(4, 3));
    }

    private void barredForTheNext() {
        check.sentence("he is BARRED for this CALL and the next BAR ones");
        for (int bar : new int[] {0, 1, 2, 20}) {
            DockCall dock = hatches(2, "gang 1;rate 0 1;bar " + bar, 2);
            check.is("card 0 refuses", 1, dock.call(0, 1));
            check.is("card 1 at the first hatch", 0, dock.look(1, 5));
            Texts.agree(dock, bar == 20 ? "bar 0" : "bar 20");
            for (int call = 1; call <= bar; call++) {
                check.is("bar " + bar + " at " + call, 1, dock.call(0, 0));
            }
            check.is("bar " + bar + " behind it", 2, dock.call(0, 0));
            check.is("card 0 ahead, by turns", 0, dock.look(0, 5));
        }
    }

    private void barAtFirst() {
        check.sentence("BAR at first 2");
        DockCall dock = Docks.with(1, "gang 1", 2000);
        int[] due = {0, 0, 0, 1};
        for (int call = 0; call < 4; call++) {
            check.is("call " + call, due[call], dock.call(0, call == 0 ? 1 : 0));
        }
        DockCall twice = Docks.with(1, "gang 1;bar 1", 2000);
        twice.call(0, 1);
        twice.call(0, 1);
        check.is("not asked while barred", 1, twice.look(0, 3));
        twice.call(0, 1);
        check.is("asked again behind it", 2, twice.look(0, 3));
        check.is("barred anew", 1, twice.look(0, 2));
        twice.call(0, 0);
        check.is("free anew", 0, twice.look(0, 2));
    }

    private void notAskedAnyMore() {
        check.sentence("and not asked any more");
        DockCall dock = hatches(1, "gang 1;bar 0", 4);
        check.is("no gang", 0, dock.call(0, 1));
        check.is("refused once at four hatches", 1, dock.look(0, 3));
        check.is("idle", 4, dock.count(7));
        check.is("bar 0: free at the next", 0, dock.look(0, 2));
        check.is("and comes", 1, dock.call(0, 0));
    }

    private void idleWithoutMen() {
        check.sentence("HATCHES that were idle at the latest CALL for want of men");
        DockCall dock = hatches(1, "gang 1", 3);
        check.is("ahead of any", 0, dock.count(7));
        dock.call(0, 0);
        check.is("two of three", 2, dock.count(7));
        dock.call(0, 1);
        check.is("all three", 3, dock.count(7));
        check.throwsIt("a call that throws", Docks.ILLEGAL, () -> dock.call(16, 0));
        check.is("the latest that was", 3, dock.count(7));
        dock.man(1);
        dock.man(1);
        dock.man(1);
        dock.call(0, 0);
        check.is("none", 0, dock.count(7));
        Texts.agree(dock, "cranes 1;bar 0");
        dock.call(0, -1);
        check.is("cranes are not taken by the idle", 3, dock.count(7));
    }

    private void willingMayBeAskedAgain() {
        check.sentence("who was asked and was willing may be asked again for another one");
        DockCall dock = new DockCall();
        dock.man(3);
        dock.man(2);
        Texts.agree(dock, "gang 2");
        dock.ship();
        dock.hatch(0, 50, 0, false);
        dock.hatch(0, 50, 1, false);
        check.is("the second hatch", 1, dock.call(0, 0));
        check.is("card 0", 1, dock.look(0, 5));
        check.is("card 1", 1, dock.look(1, 5));
        check.is("one turn", 1, dock.look(0, 1));
        check.is("idle", 1, dock.count(7));
        check.is("entries", 2, dock.count(3));
    }

    private void whoRefusedHasRefused() {
        check.sentence("who refused has refused");
        DockCall dock = new DockCall();
        dock.man(3);
        dock.man(2);
        dock.man(2);
        Texts.agree(dock, "gang 2;bar 1");
        dock.ship();
        dock.hatch(0, 50, 0, false);
        dock.hatch(0, 50, 1, false);
        check.is("refused at a hatch without gang", 1, dock.call(0, 1));
        check.is("once", 1, dock.look(0, 3));
        check.is("barred", 1, dock.look(0, 2));
        check.is("cards 1 and 2 come", 2, dock.look(1, 1) + dock.look(2, 1));
        check.is("he does not", 0, dock.look(0, 1));
    }

    private void noCraneIsTaken() {
        check.sentence("and no CRANE is taken");
        DockCall dock = Docks.with(2, "gang 1;cranes 1");
        dock.hatch(0, 50, 3, false);
        dock.hatch(0, 50, 2, false);
        dock.hatch(0, 50, 0, false);
        dock.hatch(0, 50, 0, false);
        check.is("one gang behind two idle ones", 1, dock.call(0, 0));
        check.is("card 0", 2, dock.look(0, 5));
        check.is("the hatch behind is not idle", 2, dock.count(7));
        check.is("card 1 is not asked", 0, dock.look(1, 1));
    }

    private void rateOrWhatIsLeft() {
        check.sentence("RATE of its SKILL, or what is left, is moved");
        int[] rates = {1, 2, 10, 499, 500};
        for (int rate : rates) {
            for (int tons : new int[] {1, rate - 1, rate, rate + 1, 4 * rate - 1, 4 * rate, 4 * rate + 1, 2000}) {
                if (tons < 1 || tons > 2000) {
                    continue;
                }
                for (int skill = 0; skill <= 3; skill++) {
                    DockCall dock = new DockCall();
                    dock.man(1 << skill);
                    Texts.agree(dock, "gang 1;rate 0 3;rate 1 3;rate 2 3;rate 3 3;rate " + skill + " " + rate);
                    dock.ship();
                    dock.hatch(0, tons, skill, false);
                    dock.call(0, 0);
                    int left = Math.max(0, tons - 4 * rate);
                    check.is("left of " + tons + " by " + rate, left, dock.tons(0, 0));
                    check.is("moved of " + tons + " by " + rate, tons - left, dock.count(5));
                }
            }
        }
    }

    private void behindTheLastTons() {
        check.sentence("Behind the last TONS no hour counts");
        hoursAre(1, 0, 1, 0);
        hoursAre(1, 0, 9, 0);
        hoursAre(1, 0, 10, 0);
        hoursAre(2, 0, 11, 0);
        hoursAre(2, 0, 20, 0);
        hoursAre(3, 0, 21, 0);
        hoursAre(3, 0, 30, 0);
        hoursAre(4, 0, 31, 0);
        hoursAre(4, 0, 40, 0);
        hoursAre(4, 0, 41, 0);
        hoursAre(2, 2, 20, 5);
        hoursAre(2, 2, 20, 3);
        hoursAre(2, 1, 20, 10);
        hoursAre(2, 0, 20, 12);
    }

    private void oneTurnMore() {
        check.sentence("TURNS, 0 at first: at how many CALLS he was in a GANG");
        DockCall dock = Docks.with(2, "gang 1;rate 0 1", 2000);
        check.is("at first", 0, dock.look(0, 1));
        int[][] due = {{1, 0}, {1, 1}, {2, 1}, {2, 2}};
        for (int[] turns : due) {
            dock.call(0, 0);
            check.is("card 0", turns[0], dock.look(0, 1));
            check.is("card 1", turns[1], dock.look(1, 1));
        }
        dock.call(0, 3);
        check.is("refusing is no turn", 2, dock.look(0, 1));
    }

    private void numberedFromZero() {
        check.sentence("A CALL (numbered from 0 on); CALLS that were");
        DockCall dock = Docks.with(1, "gang 1;rate 0 1", 2000);
        for (int call = 0; call < 5; call++) {
            check.is("calls ahead", call, dock.count(2));
            dock.call(0, 0);
            check.is("the entry's call", call, dock.entry(call, 0));
        }
        check.throwsIt("a wrong call", Docks.ILLEGAL, () -> dock.call(16, 0));
        check.is("is none", 5, dock.count(2));
    }

    /** Thirty-three calls make the dock, 478 are dock's calls, and the last of the 512 asks what pay there was. */
    private void lastOfTheCalls() {
        check.sentence("An object is used for at most 512 calls");
        DockCall dock = new DockCall();
        for (int card = 0; card < 23; card++) {
            dock.man(1);
        }
        Texts.agree(dock, "gang 1;rate 0 1;pay 1000");
        dock.ship();
        for (int hatch = 0; hatch < 4; hatch++) {
            dock.hatch(0, 2000, 0, false);
        }
        int used = 23 + 5 + 1 + 4;
        int gangs = 0;
        for (; used < 511; used++) {
            gangs += dock.call(0, 0);
        }
        check.is("gangs", 4 * 478, gangs);
        check.is("the 512th: all pay", 4000 * gangs, dock.count(9));
    }
}
