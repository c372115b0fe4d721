/** The boundaries of promises 4 to 6 and 11 to 13: man, ship, hatch, look, tons, state. */
public final class MenAndShipsEdgesTest {
    private static final int MIN = Integer.MIN_VALUE;
    private static final int MAX = Integer.MAX_VALUE;

    private final Check check = new Check("edges of men and ships");

    public static void main(String[] args) {
        MenAndShipsEdgesTest test = new MenAndShipsEdgesTest();
        test.skills();
        test.menAtMost();
        test.shipsAtMost();
        test.shipWithoutHatches();
        test.came();
        test.hatchOfNoShip();
        test.hatchTons();
        test.hatchSkill();
        test.hatchesAtMost();
        test.doneWithoutTons();
        test.noSuchMan();
        test.anotherWhatOfMan();
        test.barredAtTheNextCall();
        test.gangAtTheLatestCall();
        test.tonsOfNoHatch();
        test.tonsLeft();
        test.noSuchShip();
        test.anotherWhatOfShip();
        test.waited();
        test.check.end();
    }

    private void skills() {
        check.sentence("SKILLS, a set of 0 to 3 as bits (1 to 15)");
        DockCall dock = new DockCall();
        for (int none : new int[] {0, 16, -1, 17, 31, -15, MIN, MIN + 1, MAX}) {
            check.throwsIt("man(" + none + ")", Docks.ILLEGAL, () -> dock.man(none));
        }
        for (int skills = 1; skills <= 15; skills++) {
            check.is("man(" + skills + ")", skills - 1, dock.man(skills));
            check.is("look(0) of it", skills, dock.look(skills - 1, 0));
        }
        check.is("men", 15, dock.count(0));
    }

    private void menAtMost() {
        check.sentence("UnsupportedOperationException: there are 24");
        DockCall dock = new DockCall();
        for (int card = 0; card < 24; card++) {
            check.is("card", card, dock.man(1));
            check.is("men", card + 1, dock.count(0));
        }
        check.throwsIt("the 25th", Docks.TOO_MANY, () -> dock.man(1));
        check.throwsIt("again", Docks.TOO_MANY, () -> dock.man(15));
        check.throwsIt("the 25th, with no skills", Docks.ILLEGAL, () -> dock.man(0));
        check.throwsIt("the 25th, with skills 16", Docks.ILLEGAL, () -> dock.man(16));
        check.is("men then", 24, dock.count(0));
        check.is("the last man's skills", 1, dock.look(23, 0));
        check.throwsIt("look(24, 0)", Docks.OUTSIDE, () -> dock.look(24, 0));
    }

    private void shipsAtMost() {
        check.sentence("UnsupportedOperationException: there are 10");
        DockCall dock = new DockCall();
        for (int ship = 0; ship < 10; ship++) {
            check.is("number", ship, dock.ship());
            check.is("ships", ship + 1, dock.count(1));
        }
        check.throwsIt("the 11th", Docks.TOO_MANY, dock::ship);
        check.throwsIt("again", Docks.TOO_MANY, dock::ship);
        check.is("ships then", 10, dock.count(1));
        check.throwsIt("state(10, 0)", Docks.OUTSIDE, () -> dock.state(10, 0));
        check.is("a hatch of the last", 0, dock.hatch(9, 5, 0, false));
        check.is("its tons", 5, dock.tons(9, 0));
        check.is("tons of all", 5, dock.count(4));
        for (int i = 0; i < 36; i++) {
            dock.hatch(i / 4, 2000, 0, false);
        }
        check.is("tons of all with all their hatches", 36 * 2000 + 5, dock.count(4));
    }

    private void shipWithoutHatches() {
        check.sentence("A SHIP without HATCHES");
        DockCall dock = Docks.with(4, "gang 4");
        check.is("hatches", 0, dock.state(0, 1));
        check.throwsIt("tons(0, 0)", Docks.OUTSIDE, () -> dock.tons(0, 0));
        check.is("tons left", 0, dock.count(4));
        check.is("a call", 0, dock.call(0, 0));
        check.is("idle", 0, dock.count(7));
        check.is("waited", 0, dock.state(0, 3));
    }

    private void came() {
        check.sentence("CAME, the number of the next CALL as it was told");
        DockCall dock = new DockCall();
        for (int calls = 0; calls < 4; calls++) {
            check.is("ship", calls, dock.ship());
            for (int ship = 0; ship <= calls; ship++) {
                check.is("came of " + ship + " behind " + calls, ship, dock.state(ship, 0));
            }
            dock.call(0, 0);
        }
        check.throwsIt("a call that throws", Docks.ILLEGAL, () -> dock.call(16, 0));
        dock.ship();
        check.is("came", 4, dock.state(4, 0));
        dock.hatch(4, 9, 0, false);
        dock.call(0, 0);
        check.is("came does not change", 4, dock.state(4, 0));
    }

    private void hatchOfNoShip() {
        check.sentence("hatch: there is no such SHIP");
        DockCall dock = new DockCall();
        check.throwsIt("without ships", Docks.OUTSIDE, () -> dock.hatch(0, 1, 0, false));
        dock.ship();
        dock.ship();
        for (int none : new int[] {-1, 2, 3, 10, MIN, MAX}) {
            check.throwsIt("hatch of " + none, Docks.OUTSIDE, () -> dock.hatch(none, 1, 0, false));
        }
        check.is("of the first", 0, dock.hatch(0, 1, 0, false));
        check.is("of the last", 0, dock.hatch(1, 2, 0, false));
        check.is("tons", 3, dock.count(4));
    }

    private void hatchTons() {
        check.sentence("TONS (0 to 2000)");
        DockCall dock = new DockCall();
        dock.ship();
        for (int none : new int[] {-1, -2000, 2001, 2002, MIN, MAX}) {
            check.throwsIt("tons " + none, Docks.ILLEGAL, () -> dock.hatch(0, none, 0, false));
        }
        check.is("hatches", 0, dock.state(0, 1));
        int[] right = {0, 1, 1999, 2000};
        for (int hatch = 0; hatch < 4; hatch++) {
            check.is("tons " + right[hatch], hatch, dock.hatch(0, right[hatch], 0, false));
            check.is("tons()", right[hatch], dock.tons(0, hatch));
        }
    }

    private void hatchSkill() {
        check.sentence("a SKILL (0 to 3)");
        DockCall dock = new DockCall();
        dock.ship();
        for (int none : new int[] {-1, 4, 5, 32, MIN, MAX}) {
            check.throwsIt("skill " + none, Docks.ILLEGAL, () -> dock.hatch(0, 1, none, false));
        }
        check.is("hatches", 0, dock.state(0, 1));
        Texts.agree(dock, "gang 1");
        for (int skill = 0; skill <= 3; skill++) {
            check.is("skill " + skill, skill, dock.hatch(0, 1, skill, false));
            dock.man(1 << 3 - skill);
        }
        check.is("a man for each", 4, dock.call(0, 0));
        for (int card = 0; card < 4; card++) {
            check.is("hatch of card " + card, 3 - card, dock.look(card, 5));
        }
    }

    private void hatchesAtMost() {
        check.sentence("UnsupportedOperationException: it has 4");
        DockCall dock = new DockCall();
        dock.ship();
        dock.ship();
        for (int hatch = 0; hatch < 4; hatch++) {
            check.is("hatch", hatch, dock.hatch(0, 0, 0, false));
            check.is("hatches", hatch + 1, dock.state(0, 1));
        }
        check.throwsIt("the 5th", Docks.TOO_MANY, () -> dock.hatch(0, 7, 0, false));
        check.throwsIt("the 5th, tons -1", Docks.ILLEGAL, () -> dock.hatch(0, -1, 0, false));
        check.throwsIt("the 5th, skill 4", Docks.ILLEGAL, () -> dock.hatch(0, 7, 4, false));
        check.throwsIt("of ship 2", Docks.OUTSIDE, () -> dock.hatch(2, -1, 4, false));
        check.is("hatches then", 4, dock.state(0, 1));
        check.is("tons then", 0, dock.count(4));
        check.is("of the next ship", 0, dock.hatch(1, 7, 0, false));
    }

    private void doneWithoutTons() {
        check.sentence("DONE when all its HATCHES have 0 TONS (perhaps at once)");
        DockCall dock = Docks.with(1, "gang 1;rate 0 1");
        for (int hatch = 0; hatch < 3; hatch++) {
            dock.hatch(0, 0, 0, false);
            check.is("done with " + hatch + " empty ones", 1, dock.state(0, 2));
        }
        dock.hatch(0, 1, 0, false);
        check.is("not done with 1 ton", 0, dock.state(0, 2));
        check.is("one gang", 1, dock.call(0, 0));
        check.is("done then", 1, dock.state(0, 2));
        check.is("no gang", 0, dock.call(0, 0));
        dock.ship();
        dock.hatch(1, 1, 1, false);
        dock.hatch(1, 0, 1, false);
        check.is("1 ton in the first hatch", 0, dock.state(1, 2));
    }

    private void noSuchMan() {
        check.sentence("look: there is no such man");
        DockCall dock = new DockCall();
        check.throwsIt("without men", Docks.OUTSIDE, () -> dock.look(0, 0));
        dock.man(5);
        dock.man(6);
        for (int none : new int[] {-1, 2, 3, 24, 32, MIN, MAX}) {
            check.throwsIt("look(" + none + ", 0)", Docks.OUTSIDE, () -> dock.look(none, 0));
            check.throwsIt("look(" + none + ", 6)", Docks.OUTSIDE, () -> dock.look(none, 6));
        }
        check.is("the first", 5, dock.look(0, 0));
        check.is("the last", 6, dock.look(1, 0));
    }

    private void anotherWhatOfMan() {
        check.sentence("look: NoSuchElementException: another what");
        DockCall dock = new DockCall();
        dock.man(9);
        int[] fresh = {9, 0, 0, 0, DockCall.NONE, DockCall.NONE};
        for (int what = 0; what <= 5; what++) {
            check.is("look(0, " + what + ")", fresh[what], dock.look(0, what));
        }
        for (int none : new int[] {-1, 6, 7, MIN, MAX}) {
            check.throwsIt("look(0, " + none + ")", Docks.NO_SUCH, () -> dock.look(0, none));
        }
    }

    /** For each BAR: barred at the call of the refusal and just so many more. */
    private void barredAtTheNextCall() {
        check.sentence("look: 1 if he is BARRED at the next CALL, else 0");
        for (int bar : new int[] {0, 1, 2, 3, 19, 20}) {
            DockCall dock = Docks.with(1, "gang 1;rate 0 1;bar " + bar, 2000);
            check.is("at first", 0, dock.look(0, 2));
            dock.call(0, 1);
            check.is("he refused", 1, dock.look(0, 3));
            for (int call = 1; call <= bar; call++) {
                check.is("bar " + bar + ": at " + call, 1, dock.look(0, 2));
                check.is("bar " + bar + ": no gang at " + call, 0, dock.call(0, 1));
            }
            check.is("bar " + bar + ": behind", 0, dock.look(0, 2));
            check.is("barred ones do not refuse", 1, dock.look(0, 3));
            check.is("bar " + bar + ": a gang behind", 1, dock.call(0, 0));
        }
    }

    private void gangAtTheLatestCall() {
        check.sentence("look: the SHIP of his GANG at the latest CALL (NONE), its HATCH (NONE)");
        DockCall dock = Docks.with(1, "gang 1;rate 0 1");
        dock.ship();
        dock.hatch(1, 0, 0, false);
        dock.hatch(1, 5, 0, false);
        gangIs(dock, "ahead of any call", DockCall.NONE, DockCall.NONE);
        dock.call(0, 0);
        gangIs(dock, "in a gang", 1, 1);
        check.throwsIt("a call that throws", Docks.ILLEGAL, () -> dock.call(-1, 0));
        gangIs(dock, "behind a call that threw", 1, 1);
        dock.call(0, 0);
        gangIs(dock, "again", 1, 1);
        dock.call(0, 0);
        gangIs(dock, "nothing to do", DockCall.NONE, DockCall.NONE);
        check.is("a new man", 1, dock.man(1));
        check.is("his ship", DockCall.NONE, dock.look(1, 4));
        check.is("his hatch", DockCall.NONE, dock.look(1, 5));
    }

    private void gangIs(DockCall dock, String when, int ship, int hatch) {
        check.is("ship " + when, ship, dock.look(0, 4));
        check.is("hatch " + when, hatch, dock.look(0, 5));
    }

    private void tonsOfNoHatch() {
        check.sentence("tons: there is no such SHIP, HATCH");
        DockCall dock = new DockCall();
        check.throwsIt("without ships", Docks.OUTSIDE, () -> dock.tons(0, 0));
        dock.ship();
        dock.ship();
        check.throwsIt("without hatches", Docks.OUTSIDE, () -> dock.tons(0, 0));
        dock.hatch(0, 3, 0, false);
        dock.hatch(1, 4, 0, false);
        dock.hatch(1, 5, 0, false);
        for (int none : new int[] {-1, 2, 10, MIN, MAX}) {
            check.throwsIt("tons(" + none + ", 0)", Docks.OUTSIDE, () -> dock.tons(none, 0));
        }
        for (int none : new int[] {-1, 1, 2, 4, MIN, MAX}) {
            check.throwsIt("tons(0, " + none + ")", Docks.OUTSIDE, () -> dock.tons(0, none));
        }
        for (int none : new int[] {-1, -4, 2, 3, 4}) {
            check.throwsIt("tons(1, " + none + ")", Docks.OUTSIDE, () -> dock.tons(1, none));
        }
        check.is("tons(0, 0)", 3, dock.tons(0, 0));
        check.is("tons(1, 0)", 4, dock.tons(1, 0));
        check.is("tons(1, 1)", 5, dock.tons(1, 1));
    }

    /** Four hours of 10: 39, 40 and 41 tons. */
    private void tonsLeft() {
        check.sentence("TONS of a HATCH that are left");
        int[] tons = {1, 9, 10, 11, 39, 40, 41, 2000};
        int[] left = {0, 0, 0, 0, 0, 0, 1, 1960};
        for (int i = 0; i < tons.length; i++) {
            DockCall dock = Docks.with(1, "gang 1", tons[i]);
            check.is("at first", tons[i], dock.tons(0, 0));
            dock.call(0, 0);
            check.is("left of " + tons[i], left[i], dock.tons(0, 0));
            check.is("count(4)", left[i], dock.count(4));
            check.is("count(5)", tons[i] - left[i], dock.count(5));
            check.is("done", left[i] == 0 ? 1 : 0, dock.state(0, 2));
        }
    }

    private void noSuchShip() {
        check.sentence("state: there is no such SHIP");
        DockCall dock = new DockCall();
        check.throwsIt("without ships", Docks.OUTSIDE, () -> dock.state(0, 0));
        dock.ship();
        dock.call(0, 0);
        dock.ship();
        for (int none : new int[] {-1, 2, 3, 10, MIN, MAX}) {
            check.throwsIt("state(" + none + ", 0)", Docks.OUTSIDE, () -> dock.state(none, 0));
            check.throwsIt("state(" + none + ", 4)", Docks.OUTSIDE, () -> dock.state(none, 4));
        }
        check.is("the first", 0, dock.state(0, 0));
        check.is("the last", 1, dock.state(1, 0));
    }

    private void anotherWhatOfShip() {
        check.sentence("state: NoSuchElementException: another what");
        DockCall dock = new DockCall();
        dock.ship();
        dock.hatch(0, 1, 0, false);
        int[] fresh = {0, 1, 0, 0};
        for (int what = 0; what <= 3; what++) {
            check.is("state(0, " + what + ")", fresh[what], dock.state(0, what));
        }
        for (int none : new int[] {-1, 4, 5, MIN, MAX}) {
            check.throwsIt("state(0, " + none + ")", Docks.NO_SUCH, () -> dock.state(0, none));
        }
    }

    private void waited() {
        check.sentence("each SHIP that is not DONE behind the CALL has waited one CALL more");
        int[] tons = {0, 1, 40, 41, 80, 81};
        int[] waits = {0, 0, 0, 1, 1, 2};
        for (int i = 0; i < tons.length; i++) {
            DockCall dock = Docks.with(1, "gang 1", tons[i]);
            check.is("at first", 0, dock.state(0, 3));
            Docks.calls(dock, 4);
            check.is("waited with " + tons[i], waits[i], dock.state(0, 3));
        }
        DockCall idle = Docks.with(0, "gang 1", 1);
        for (int call = 1; call <= 3; call++) {
            idle.call(0, 0);
            check.is("without men", call, idle.state(0, 3));
        }
    }
}
