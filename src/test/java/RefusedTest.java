import java.util.ArrayList;
import java.util.List;
import java.util.function.Consumer;
import java.util.function.Supplier;

/**
 * A refused call (one that throws, or answers NONE or false) changes nothing: of two docks made alike one has the
 * refused call more, and all that can be asked of them, also of their next calls, is the same. Each dock stays
 * within 512 calls.
 */
public final class RefusedTest {
    private static final int MIN = Integer.MIN_VALUE;
    private static final int MAX = Integer.MAX_VALUE;
    private static final int BLANKS = 0x20202020;
    private static final List<String> THROWN = List.of("throws.IllegalArgumentException",
        "throws.IndexOutOfBoundsException", "throws.UnsupportedOperationException", "throws.NoSuchElementException");

    private final Check check = new Check("refused calls");

    public static void main(String[] args) {
        RefusedTest test = new RefusedTest();
        test.inANewDock();
        test.inASmallDock();
        test.inAFullDock();
        test.afterAWrongText();
        test.questionsChangeNothing();
        test.wrongTexts();
        test.check.end();
    }

    private void inANewDock() {
        check.sentence("a call that throws changes nothing (a new object)");
        Supplier<DockCall> made = DockCall::new;
        refusedAnywhere(made);
        refused(made, "look(0, 0)", Docks.OUTSIDE, d -> d.look(0, 0));
        refused(made, "tons(0, 0)", Docks.OUTSIDE, d -> d.tons(0, 0));
        refused(made, "state(0, 0)", Docks.OUTSIDE, d -> d.state(0, 0));
        refused(made, "entry(0, 0)", Docks.OUTSIDE, d -> d.entry(0, 0));
        refused(made, "rule(0, 0)", Docks.OUTSIDE, d -> d.rule(0, 0));
        refused(made, "earned(0, 0, 0)", Docks.OUTSIDE, d -> d.earned(0, 0, 0));
        refused(made, "hatch(0, 1, 0, false)", Docks.OUTSIDE, d -> d.hatch(0, 1, 0, false));
        refused(made, "end(1)", false, d -> d.end(1));
    }

    private void inASmallDock() {
        check.sentence("a call that throws changes nothing (a dock at work)");
        Supplier<DockCall> made = RefusedTest::smallDock;
        refusedAnywhere(made);
        refused(made, "hatch(0, -1, 0, false)", Docks.ILLEGAL, d -> d.hatch(0, -1, 0, false));
        refused(made, "hatch(0, 2001, 0, false)", Docks.ILLEGAL, d -> d.hatch(0, 2001, 0, false));
        refused(made, "hatch(0, 1, -1, true)", Docks.ILLEGAL, d -> d.hatch(0, 1, -1, true));
        refused(made, "hatch(0, 1, 4, true)", Docks.ILLEGAL, d -> d.hatch(0, 1, 4, true));
        refused(made, "hatch(1, 1, 0, true)", Docks.TOO_MANY, d -> d.hatch(1, 1, 0, true));
        refused(made, "hatch(1, 2001, 0, true)", Docks.ILLEGAL, d -> d.hatch(1, 2001, 0, true));
        refused(made, "hatch(3, 1, 0, true)", Docks.OUTSIDE, d -> d.hatch(3, 1, 0, true));
        refused(made, "look(4, 1)", Docks.OUTSIDE, d -> d.look(4, 1));
        refused(made, "look(3, 6)", Docks.NO_SUCH, d -> d.look(3, 6));
        refused(made, "look(3, -1)", Docks.NO_SUCH, d -> d.look(3, -1));
        refused(made, "tons(0, 2)", Docks.OUTSIDE, d -> d.tons(0, 2));
        refused(made, "state(0, 4)", Docks.NO_SUCH, d -> d.state(0, 4));
        refused(made, "state(3, 0)", Docks.OUTSIDE, d -> d.state(3, 0));
        refused(made, "entry(0, 4)", Docks.NO_SUCH, d -> d.entry(0, 4));
        refused(made, "entry(800, 2)", Docks.OUTSIDE, d -> d.entry(800, 2));
        refused(made, "rule(0, -1)", Docks.ILLEGAL, d -> d.rule(0, -1));
        refused(made, "rule(0, 100001)", Docks.ILLEGAL, d -> d.rule(0, 100001));
        refused(made, "rule(800, 5)", Docks.OUTSIDE, d -> d.rule(800, 5));
        refused(made, "earned(4, 0, 0)", Docks.OUTSIDE, d -> d.earned(4, 0, 0));
        refused(made, "end(24)", false, d -> d.end(24));
    }

    private void inAFullDock() {
        check.sentence("a call that throws changes nothing (a full dock); NONE, none come; false, nothing happens");
        Supplier<DockCall> made = RefusedTest::fullDock;
        refusedAnywhere(made);
        refused(made, "man(1)", Docks.TOO_MANY, d -> d.man(1));
        refused(made, "man(0)", Docks.ILLEGAL, d -> d.man(0));
        refused(made, "ship()", Docks.TOO_MANY, DockCall::ship);
        refused(made, "hatch(9, 7, 1, true)", Docks.TOO_MANY, d -> d.hatch(9, 7, 1, true));
        refused(made, "hatch(0, 0, 0, true)", Docks.TOO_MANY, d -> d.hatch(0, 0, 0, true));
        refused(made, "hatch(10, 7, 1, true)", Docks.OUTSIDE, d -> d.hatch(10, 7, 1, true));
        refused(made, "rule(0, 7)", false, d -> d.rule(0, 7));
        refused(made, "rule(15, 100000)", false, d -> d.rule(15, 100000));
        refused(made, "rule(0, -1)", Docks.ILLEGAL, d -> d.rule(0, -1));
        refused(made, "rule(800, 1)", Docks.OUTSIDE, d -> d.rule(800, 1));
        refused(made, "want(1, 1)", DockCall.NONE, d -> d.want(1, 1));
        refused(made, "want(8, 4)", DockCall.NONE, d -> d.want(8, 4));
        refused(made, "feed", DockCall.NONE, d -> d.feed(0x20202020, 0, 0, 0, 0));
        refused(made, "end(391)", false, d -> d.end(391));
    }

    private void afterAWrongText() {
        check.sentence("a call that throws changes nothing (also not what fault() tells)");
        refusedAnywhere(() -> {
            DockCall dock = smallDock();
            Check.answerOf(dock::agree);
            Check.answerOf(() -> Texts.agree(dock, "gang 2;bar 21"));
            return dock;
        });
    }

    /** What is refused in every dock. */
    private void refusedAnywhere(Supplier<DockCall> made) {
        for (int rain : new int[] {-1, 16, MIN, MAX}) {
            refused(made, "call(" + rain + ", -1)", Docks.ILLEGAL, d -> d.call(rain, -1));
        }
        for (int skills : new int[] {-1, 0, 16, MIN, MAX}) {
            refused(made, "man(" + skills + ")", Docks.ILLEGAL, d -> d.man(skills));
        }
        for (int n : new int[] {-1, 401, MIN, MAX}) {
            refused(made, "end(" + n + ")", false, d -> d.end(n));
        }
        for (int ship : new int[] {-1, 10, MIN, MAX}) {
            refused(made, "hatch(" + ship + ", 1, 1, true)", Docks.OUTSIDE, d -> d.hatch(ship, 1, 1, true));
            refused(made, "state(" + ship + ", 0)", Docks.OUTSIDE, d -> d.state(ship, 0));
            refused(made, "tons(" + ship + ", 0)", Docks.OUTSIDE, d -> d.tons(ship, 0));
        }
        for (int man : new int[] {-1, 24, MIN, MAX}) {
            refused(made, "look(" + man + ", 0)", Docks.OUTSIDE, d -> d.look(man, 0));
            refused(made, "earned(" + man + ", 9, 9)", Docks.OUTSIDE, d -> d.earned(man, 9, 9));
        }
        for (int entry : new int[] {-1, 800, MIN, MAX}) {
            refused(made, "entry(" + entry + ", 0)", Docks.OUTSIDE, d -> d.entry(entry, 0));
            refused(made, "rule(" + entry + ", 1)", Docks.OUTSIDE, d -> d.rule(entry, 1));
        }
        for (int what : new int[] {-1, 11, MIN, MAX}) {
            refused(made, "says(" + what + ")", Docks.NO_SUCH, d -> d.says(what));
            refused(made, "count(" + what + ")", DockCall.NONE, d -> d.count(what));
        }
        for (int gangs : new int[] {-1, 9, MIN, MAX}) {
            refused(made, "want(" + gangs + ", 1)", Docks.ILLEGAL, d -> d.want(gangs, 1));
            refused(made, "plan(" + gangs + ")", Docks.ILLEGAL, d -> d.plan(gangs));
        }
        refused(made, "plan(0)", Docks.ILLEGAL, d -> d.plan(0));
        for (int most : new int[] {-1, 0, 5, MIN, MAX}) {
            refused(made, "want(8, " + most + ")", Docks.ILLEGAL, d -> d.want(8, most));
        }
    }

    /** Asking is no calling: each question that is answered leaves all as it is, too. */
    private void questionsChangeNothing() {
        check.sentence("Nothing is promised beyond the answers and state changes described above");
        Supplier<DockCall> made = RefusedTest::smallDock;
        sameBehind(made, "questions", d -> {
            for (int what = 0; what <= 3; what++) {
                d.look(0, what);
                d.state(0, what);
                d.entry(0, what);
            }
            d.look(1, 4);
            d.look(1, 5);
            d.tons(0, 0);
            d.earned(0, 2, 1);
            d.plan(3);
            d.count(7);
            d.says(6);
            d.fault();
            d.end(23);
        });
    }

    /** "nothing but the TAPE, where it is used up", and fault(), which tells of the latest agree(). */
    private void wrongTexts() {
        check.sentence("agree: the text is wrong: all stays");
        String[] texts = {"", "gang 9", "gang 1;rate 0 1;cranes 1;bar 1;pay 1;rain 1;broken 1;first number;x", "bar 1;",
            "first", "rate 4 1"};
        int[] faults = {0, 5, 66, 6, 5, 5};
        for (int i = 0; i < texts.length; i++) {
            String text = texts[i];
            DockCall with = smallDock();
            check.throwsIt("agree() of '" + text + "'", Docks.ILLEGAL, () -> Texts.agree(with, text));
            check.is("fault()", faults[i], with.fault());
            DockCall without = smallDock();
            without.end(0);
            check.same("all but fault() behind '" + text + "'", new Questions(without).withoutFault(),
                new Questions(with).withoutFault());
        }
    }

    private void refused(Supplier<DockCall> made, String what, Object due, CallOn call) {
        Object dueAnswer = due instanceof Class<?> thrown ? "throws." + thrown.getSimpleName() : due;
        sameBehind(made, what, dock -> check.same(what, dueAnswer, Check.answerOf(() -> call.answer(dock))));
    }

    private interface CallOn {
        Object answer(DockCall dock);
    }

    private void sameBehind(Supplier<DockCall> made, String what, Consumer<DockCall> step) {
        List<String> due = new Questions(made.get()).all();
        DockCall dock = made.get();
        step.accept(dock);
        List<String> got = new Questions(dock).all();
        for (int i = 0; i < due.size() && i < got.size(); i++) {
            check.same("behind " + what, due.get(i), got.get(i));
        }
        check.is("as many answers", due.size(), got.size());
    }

    /** Four men, one of them barred, ships of which one is done, a ruling, two ships wanted, and a right text fed. */
    private static DockCall smallDock() {
        DockCall dock = new DockCall();
        dock.man(1);
        dock.man(3);
        dock.man(1);
        dock.man(2);
        Texts.agree(dock, "gang 2;rate 0 7;first tons;bar 2");
        dock.ship();
        dock.hatch(0, 90, 0, true);
        dock.hatch(0, 40, 1, false);
        dock.ship();
        for (int hatch = 0; hatch < 4; hatch++) {
            dock.hatch(1, hatch, 0, false);
        }
        dock.call(1, 0);
        dock.call(2, 1);
        dock.rule(0, 5);
        dock.call(0, 0);
        dock.rule(1, 6);
        dock.ship();
        dock.want(5, 2);
        dock.want(3, 1);
        Texts.feed(dock, 0, "pay 20;gang 1;broken 3 ");
        return dock;
    }

    private static DockCall fullDock() {
        DockCall dock = new DockCall();
        for (int card = 0; card < 24; card++) {
            dock.man(1 + card % 15);
        }
        Texts.agree(dock, "gang 2;rate 0 7;bar 3");
        for (int ship = 0; ship < 10; ship++) {
            dock.ship();
            for (int hatch = 0; hatch < 4; hatch++) {
                dock.hatch(ship, 10 * ship + 5 * hatch, hatch, ship % 2 == 0);
            }
        }
        dock.call(3, 5);
        for (int ruling = 0; ruling < 100; ruling++) {
            dock.rule(ruling % 8, ruling);
        }
        for (int i = 0; i < 4; i++) {
            dock.want(2 * i + 1, i + 1);
        }
        Texts.feed(dock, 0, "pay 1;".repeat(64) + "gang 3");
        return dock;
    }

    /** All that can be asked of a dock, at last also what its next calls bring, by which hidden state shows. */
    private final class Questions {
        private final DockCall dock;
        private final List<String> answers = new ArrayList<>();
        private int asked;

        Questions(DockCall dock) {
            this.dock = dock;
        }

        private void ask(String what, Check.Call call) {
            asked++;
            Object answer = Check.answerOf(call);
            if (answer instanceof String thrown) {
                check.is(what + " " + thrown + ", one of the document's", true, THROWN.contains(thrown));
            }
            answers.add(what + " = " + answer);
        }

        List<String> all() {
            ask("fault()", dock::fault);
            return withoutFault();
        }

        List<String> withoutFault() {
            for (int what = 0; what <= 10; what++) {
                int w = what;
                ask("count(" + w + ")", () -> dock.count(w));
                ask("says(" + w + ")", () -> dock.says(w));
            }
            int men = Math.min(dock.count(0), 9);
            askOfMen(men, 0, 5);
            askOfShips(Math.min(dock.count(1), 4));
            askOfEntries(Math.min(dock.count(3), 9), men);
            askOfPlan();
            askOfTape();
            askOfNextCalls(men);
            check.is("questions stay few", true, asked <= 260);
            return answers;
        }

        private void askOfMen(int men, int from, int to) {
            for (int man = 0; man < men; man++) {
                for (int what = from; what <= to; what++) {
                    int m = man;
                    int w = what;
                    ask("look(" + m + ", " + w + ")", () -> dock.look(m, w));
                }
            }
        }

        private void askOfShips(int ships) {
            for (int ship = 0; ship < ships; ship++) {
                for (int what = 0; what <= 3; what++) {
                    int s = ship;
                    int w = what;
                    ask("state(" + s + ", " + w + ")", () -> dock.state(s, w));
                    ask("tons(" + s + ", " + w + ")", () -> dock.tons(s, w));
                }
            }
        }

        private void askOfEntries(int entries, int men) {
            for (int entry = 0; entry < entries; entry++) {
                int e = entry;
                ask("entry(" + e + ", 1)", () -> dock.entry(e, 1));
                ask("entry(" + e + ", 3)", () -> dock.entry(e, 3));
            }
            for (int man = 0; man < men; man += 3) {
                for (int known = 0; known <= 4; known++) {
                    int m = man;
                    int k = known;
                    ask("earned(" + m + ", 3, " + k + ")", () -> dock.earned(m, 3, k));
                }
            }
        }

        private void askOfPlan() {
            ask("plan(1)", () -> dock.plan(1));
            ask("plan(3)", () -> dock.plan(3));
            ask("want(2, 2)", () -> dock.want(2, 2));
            ask("plan(2)", () -> dock.plan(2));
            ask("unwant()", dock::unwant);
        }

        /** A full tape takes no feed, so it is its agree() that tells it whole. */
        private void askOfTape() {
            ask("feed", () -> dock.feed(BLANKS, BLANKS, BLANKS, BLANKS, BLANKS));
            ask("agree()", dock::agree);
            ask("says(0) and says(3) then", () -> dock.says(0) + 100 * dock.says(3));
            ask("feed anew", () -> dock.feed(1, 2, 3, 4, 5));
        }

        private void askOfNextCalls(int men) {
            ask("man(1)", () -> dock.man(1));
            ask("ship()", dock::ship);
            ask("hatch(0, 50, 0, true)", () -> dock.hatch(0, 50, 0, true));
            ask("rule(0, 9)", () -> dock.rule(0, 9));
            for (int call = 0; call < 3; call++) {
                int rain = call;
                ask("the next call", () -> dock.call(rain, 2));
                askOfMen(Math.min(men, 4), 1, 3);
                ask("count(5)", () -> dock.count(5));
                ask("count(9)", () -> dock.count(9));
            }
        }
    }
}
