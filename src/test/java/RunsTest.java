import java.util.Random;

/** Long runs of calls by a fixed seed, each answer held against the model's. */
public final class RunsTest {
    private static final int RUNS = 3000;
    private static final int CALLS = 511;
    private static final String[] WORDS = {"gang", "rate", "cranes", "bar", "pay", "rain", "broken", "first",
        "waiting", "tons", "number", "gan", "gangs", "z", ";", " ", "-", "\u00e9", "\0", "A"};
    private static final int[] ODD = {-1, 0, 1, Integer.MAX_VALUE, Integer.MIN_VALUE};

    private final Check check;
    private final Random random;
    private final DockCall dock = new DockCall();
    private final Model model = new Model();
    /** Runs differ by what they are about, so that long states are reached too. */
    private final int kind;
    private final int run;

    private RunsTest(Check check, int run) {
        this.check = check;
        this.run = run;
        this.random = new Random(run * 7919L + 17);
        this.kind = run % 4;
    }

    public static void main(String[] args) {
        Check check = new Check("runs against the model");
        for (int run = 0; run < RUNS && check.wrongSoFar() < 20; run++) {
            new RunsTest(check, run).go();
        }
        check.end();
    }

    private void go() {
        int left = CALLS;
        if (kind != 3) {
            for (int i = random.nextInt(25); i > 0; i--, left--) {
                man(1 + random.nextInt(15));
            }
            for (int i = random.nextInt(8); i > 0; i--, left--) {
                same("ship", dock::ship, model::ship);
            }
        }
        while (left > 0) {
            left -= step();
        }
    }

    private void same(String what, Check.Call call, Check.Call due) {
        Object want = Check.answerOf(due);
        Object got = Check.answerOf(call);
        check.same("run " + run + ": " + what, want, got);
    }

    /** How many calls it was. */
    private int step() {
        int pick = random.nextInt(100);
        if (kind == 1 && pick < 60) {
            return dayOfWork(random.nextInt(10) == 0);
        }
        if (kind == 2 && pick < 40) {
            return random.nextInt(3) == 0 ? callOnce() : lookBack();
        }
        switch (random.nextInt(12)) {
            case 0:
                return text();
            case 1:
                return tapeOnce();
            case 2:
                return cargo();
            case 3:
            case 4:
                return callOnce();
            case 5:
            case 6:
                return lookBack();
            case 7:
                return planOnce();
            case 8:
                return countOnce();
            case 9:
                man(number(16));
                return 1;
            case 10:
                int what = number(11);
                same("says(" + what + ")", () -> dock.says(what), () -> model.says(what));
                return 1;
            default:
                return lookOnce();
        }
    }

    private int number(int bound) {
        return random.nextInt(12) == 0 ? ODD[random.nextInt(ODD.length)] + random.nextInt(2) * bound
            : random.nextInt(bound);
    }

    private void man(int skills) {
        same("man(" + skills + ")", () -> dock.man(skills), () -> model.man(skills));
    }

    private int dayOfWork(boolean newCargo) {
        return newCargo ? cargo() : callOnce();
    }

    private int callOnce() {
        int rain = random.nextInt(3) == 0 ? 0 : number(16);
        int unwilling = random.nextInt(2) == 0 ? 0 : random.nextInt() & random.nextInt() & random.nextInt();
        same("call(" + rain + ", " + unwilling + ")", () -> dock.call(rain, unwilling),
            () -> model.call(rain, unwilling));
        int what = 2 + random.nextInt(8);
        same("count(" + what + ")", () -> dock.count(what), () -> model.count(what));
        return 2;
    }

    private int cargo() {
        if (random.nextInt(5) == 0) {
            same("ship()", dock::ship, model::ship);
            return 1;
        }
        int ship = number(model.count(1) + 1);
        int tons = random.nextBoolean() ? number(2001) : number(100);
        int skill = number(4);
        boolean dry = random.nextBoolean();
        same("hatch(" + ship + ", " + tons + ", " + skill + ", " + dry + ")",
            () -> dock.hatch(ship, tons, skill, dry), () -> model.hatch(ship, tons, skill, dry));
        return 1;
    }

    private int lookBack() {
        int entries = model.count(3);
        int entry = random.nextInt(6) == 0 || entries == 0 ? number(entries + 2) : random.nextInt(entries);
        int calls = model.count(2);
        switch (random.nextInt(3)) {
            case 0:
                int money = random.nextInt(8) == 0 ? number(100002) : random.nextInt(500);
                same("rule(" + entry + ", " + money + ")", () -> dock.rule(entry, money),
                    () -> model.rule(entry, money));
                return 1;
            case 1:
                int what = number(4);
                same("entry(" + entry + ", " + what + ")", () -> dock.entry(entry, what),
                    () -> model.entry(entry, what));
                return 1;
            default:
                int man = number(model.count(0) + 1);
                int upTo = number(calls + 2);
                int known = number(calls + 3);
                same("earned(" + man + ", " + upTo + ", " + known + ")", () -> dock.earned(man, upTo, known),
                    () -> model.earned(man, upTo, known));
                return 1;
        }
    }

    private int lookOnce() {
        int man = number(model.count(0) + 1);
        int ship = number(model.count(1) + 1);
        int what = number(6);
        switch (random.nextInt(3)) {
            case 0:
                same("look(" + man + ", " + what + ")", () -> dock.look(man, what), () -> model.look(man, what));
                return 1;
            case 1:
                same("tons(" + ship + ", " + what + ")", () -> dock.tons(ship, what), () -> model.tons(ship, what));
                return 1;
            default:
                same("state(" + ship + ", " + what + ")", () -> dock.state(ship, what),
                    () -> model.state(ship, what));
                return 1;
        }
    }

    private int planOnce() {
        int a = number(9);
        int b = 1 + number(4);
        int pick = random.nextInt(10);
        if (pick == 0) {
            same("unwant()", dock::unwant, model::unwant);
        } else if (pick < 7) {
            same("want(" + a + ", " + b + ")", () -> dock.want(a, b), () -> model.want(a, b));
        } else if (run % 8 == 0) {
            same("plan(" + a + ")", () -> dock.plan(a), () -> model.plan(a));
        }
        return 1;
    }

    private int countOnce() {
        int what = number(11);
        same("count(" + what + ")", () -> dock.count(what), () -> model.count(what));
        return 1;
    }

    private int tapeOnce() {
        if (random.nextBoolean()) {
            int n = number(45);
            same("end(" + n + ")", () -> dock.end(n), () -> model.end(n));
            return 1;
        }
        int[] n = {random.nextInt(), random.nextInt(), random.nextInt(), random.nextInt(), random.nextInt()};
        same("feed", () -> dock.feed(n[0], n[1], n[2], n[3], n[4]), () -> model.feed(n));
        return 1;
    }

    private int text() {
        if (random.nextInt(4) != 0) {
            same("end(0)", () -> dock.end(0), () -> model.end(0));
        }
        int has = 0;
        String text = random.nextInt(3) == 0 ? anyText() : likelyText();
        int calls = 4;
        for (int at = 0; at < text.length(); at += 20) {
            int[] n = new int[5];
            for (int i = 0; i < 20; i++) {
                n[i / 4] = n[i / 4] << 8 | (at + i < text.length() ? text.charAt(at + i) : ' ');
            }
            int before = has;
            same("feed", () -> dock.feed(n[0], n[1], n[2], n[3], n[4]), () -> model.feed(n));
            has = before + 20;
            calls++;
        }
        int length = text.length();
        same("end(" + length + ")", () -> dock.end(length), () -> model.end(length));
        same("agree() of '" + text + "'", dock::agree, model::agree);
        same("fault() of '" + text + "'", dock::fault, model::fault);
        return calls;
    }

    private String anyText() {
        StringBuilder text = new StringBuilder();
        for (int i = random.nextInt(10); i > 0; i--) {
            text.append(random.nextInt(3) == 0 ? String.valueOf(number(12000)) : WORDS[random.nextInt(WORDS.length)]);
            text.append(random.nextInt(3) == 0 ? "" : " ");
        }
        return text.toString();
    }

    private String likelyText() {
        StringBuilder text = new StringBuilder();
        for (int i = random.nextInt(6); i >= 0; i--) {
            text.append(blanks()).append(clause()).append(blanks()).append(i == 0 ? "" : ";");
        }
        return text.toString();
    }

    private String clause() {
        switch (random.nextInt(8)) {
            case 0:
                return "gang" + blanks() + (random.nextInt(3) == 0 ? number(10) : 1 + random.nextInt(4));
            case 1:
                return "rate " + number(5) + " " + blanks() + number(520);
            case 2:
                return "cranes" + blanks() + number(14);
            case 3:
                return "bar " + number(22);
            case 4:
                return "pay" + blanks() + number(1010);
            case 5:
                return "rain 0" + number(102);
            case 6:
                return "broken " + number(6);
            default:
                return "first " + WORDS[8 + random.nextInt(3 + random.nextInt(2))];
        }
    }

    private String blanks() {
        return "   ".substring(0, random.nextInt(4));
    }
}
