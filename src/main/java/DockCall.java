import java.util.Arrays;
import java.util.NoSuchElementException;

/** A dock's call: men, ships, the agreement, calls, pay, disputes and the plan. */
public final class DockCall {
    public static final int NONE = -1;

    private static final int MEN_MOST = 24;
    private static final int SKILL_MOST = 3;
    private static final int SKILLS_ALL = 15;
    private static final int SHIPS_MOST = 10;
    private static final int HATCHES_MOST = 4;
    private static final int TONS_MOST = 2000;
    private static final int GANG_MOST = 8;
    private static final int HOURS = 4;
    private static final int RAIN_ALL = 15;

    private static final int TAPE_MOST = 400;
    private static final int FEED_BYTES = 20;
    private static final int DIGITS_MOST = 4;

    // Places in the agreement's row, as says() numbers them.
    private static final int GANG = 0;
    private static final int CRANES = 1;
    private static final int BAR = 2;
    private static final int PAY = 3;
    private static final int RAIN = 4;
    private static final int BROKEN = 5;
    private static final int FIRST = 6;
    private static final int RATE = 7;
    private static final int SAYINGS = 11;

    private static final int FIRST_WAITING = 0;
    private static final int FIRST_TONS = 1;
    private static final int FIRST_NUMBER = 2;

    private static final int ENTRIES_MOST = 800;
    private static final int RULINGS_MOST = 100;
    private static final int MONEY_MOST = 100000;

    private static final int PLAN_SHIPS = 4;
    private static final int PLAN_NEED_MOST = 8;
    private static final int PLAN_TAKES_MOST = 4;
    private static final int PLAN_GANGS_MOST = 8;

    private final Tape tape;
    private final int[] agreement;
    private final Reader reader;
    private final Men men;
    private final Ships ships;
    private final Ledger ledger;
    private final Round round;
    private final Planner planner;

    public DockCall() {
        tape = new Tape();
        agreement = new int[] {4, 12, 2, 10, 50, 2, FIRST_WAITING, 10, 10, 10, 10};
        reader = new Reader(tape);
        men = new Men();
        ships = new Ships();
        ledger = new Ledger();
        round = new Round(agreement, men, ships, ledger);
        planner = new Planner();
    }

    public int feed(int a, int b, int c, int d, int e) {
        if (tape.length + FEED_BYTES > TAPE_MOST) {
            return NONE;
        }
        tape.putNumber(a);
        tape.putNumber(b);
        tape.putNumber(c);
        tape.putNumber(d);
        tape.putNumber(e);
        return tape.length;
    }

    public boolean end(int n) {
        if (n < 0 || n > tape.length) {
            return false;
        }
        tape.length = n;
        return true;
    }

    public int man(int skills) throws IllegalArgumentException, UnsupportedOperationException {
        if (skills < 1 || skills > SKILLS_ALL) {
            throw new IllegalArgumentException("skills are 1 to 15");
        }
        if (men.size >= MEN_MOST) {
            throw new UnsupportedOperationException("there are 24 men");
        }
        return men.add(skills);
    }

    public int ship() throws UnsupportedOperationException {
        if (ships.size >= SHIPS_MOST) {
            throw new UnsupportedOperationException("there are 10 ships");
        }
        return ships.add(round.number);
    }

    public int hatch(int ship, int tons, int skill, boolean dry)
            throws IndexOutOfBoundsException, IllegalArgumentException, UnsupportedOperationException {
        if (!ships.has(ship)) {
            throw new IndexOutOfBoundsException("no such ship");
        }
        if (tons < 0 || tons > TONS_MOST || skill < 0 || skill > SKILL_MOST) {
            throw new IllegalArgumentException("tons are 0 to 2000, a skill is 0 to 3");
        }
        if (ships.hatches[ship] >= HATCHES_MOST) {
            throw new UnsupportedOperationException("it has 4 hatches");
        }
        return ships.addHatch(ship, tons, skill, dry);
    }

    public int agree() throws IllegalArgumentException {
        int clauses = reader.readText(agreement);
        tape.length = 0;
        if (clauses == NONE) {
            throw new IllegalArgumentException("the text is wrong");
        }
        System.arraycopy(reader.told, 0, agreement, 0, SAYINGS);
        return clauses;
    }

    public int fault() {
        return reader.wrongAt;
    }

    public int says(int what) throws NoSuchElementException {
        if (what < 0 || what >= SAYINGS) {
            throw new NoSuchElementException("the agreement says 0 to 10");
        }
        return agreement[what];
    }

    public int call(int rain, int unwilling) throws IllegalArgumentException {
        if (rain < 0 || rain > RAIN_ALL) {
            throw new IllegalArgumentException("rain is 0 to 15");
        }
        return round.hold(rain, unwilling);
    }

    public int look(int man, int what) throws IndexOutOfBoundsException, NoSuchElementException {
        if (!men.has(man)) {
            throw new IndexOutOfBoundsException("no such man");
        }
        switch (what) {
            case 0:
                return men.skills[man];
            case 1:
                return men.turns[man];
            case 2:
                return men.isBarred(man, round.number) ? 1 : 0;
            case 3:
                return men.refusals[man];
            case 4:
                return men.gangShip[man];
            case 5:
                return men.gangHatch[man];
            default:
                throw new NoSuchElementException("of a man there is 0 to 5");
        }
    }

    public int tons(int ship, int hatch) throws IndexOutOfBoundsException {
        if (!ships.has(ship) || hatch < 0 || hatch >= ships.hatches[ship]) {
            throw new IndexOutOfBoundsException("no such ship or hatch");
        }
        return ships.left[Ships.place(ship, hatch)];
    }

    public int state(int ship, int what) throws IndexOutOfBoundsException, NoSuchElementException {
        if (!ships.has(ship)) {
            throw new IndexOutOfBoundsException("no such ship");
        }
        switch (what) {
            case 0:
                return ships.came[ship];
            case 1:
                return ships.hatches[ship];
            case 2:
                return ships.isDone(ship) ? 1 : 0;
            case 3:
                return ships.waited[ship];
            default:
                throw new NoSuchElementException("of a ship there is 0 to 3");
        }
    }

    public int entry(int entry, int what) throws IndexOutOfBoundsException, NoSuchElementException {
        if (!ledger.has(entry)) {
            throw new IndexOutOfBoundsException("no such entry");
        }
        switch (what) {
            case 0:
                return ledger.madeAt[entry];
            case 1:
                return ledger.card[entry];
            case 2:
                return ledger.money[entry];
            case 3:
                return ledger.knownMoney(entry, round.number);
            default:
                throw new NoSuchElementException("of an entry there is 0 to 3");
        }
    }

    public boolean rule(int entry, int money) throws IndexOutOfBoundsException, IllegalArgumentException {
        if (!ledger.has(entry)) {
            throw new IndexOutOfBoundsException("no such entry");
        }
        if (money < 0 || money > MONEY_MOST) {
            throw new IllegalArgumentException("money is 0 to 100000");
        }
        return ledger.addRuling(entry, money, round.number);
    }

    public int earned(int man, int upTo, int known) throws IndexOutOfBoundsException {
        if (!men.has(man)) {
            throw new IndexOutOfBoundsException("no such man");
        }
        return ledger.sumOf(man, upTo, known);
    }

    public int want(int gangs, int most) throws IllegalArgumentException {
        if (gangs < 0 || gangs > PLAN_NEED_MOST || most < 1 || most > PLAN_TAKES_MOST) {
            throw new IllegalArgumentException("gangs are 0 to 8, at most 1 to 4 a call");
        }
        return planner.add(gangs, most);
    }

    public int unwant() {
        return planner.clear();
    }

    public int plan(int gangs) throws IllegalArgumentException {
        if (gangs < 1 || gangs > PLAN_GANGS_MOST) {
            throw new IllegalArgumentException("gangs a call are 1 to 8");
        }
        return planner.leastWaiting(gangs);
    }

    public int count(int what) {
        switch (what) {
            case 0:
                return men.size;
            case 1:
                return ships.size;
            case 2:
                return round.number;
            case 3:
                return ledger.size;
            case 4:
                return ships.tonsLeft();
            case 5:
                return round.tonsMoved;
            case 6:
                return round.gangsInAll;
            case 7:
                return round.idle;
            case 8:
                return ledger.rulings;
            case 9:
                return ledger.paid;
            default:
                return NONE;
        }
    }

    /** The bytes that were fed and are not used up yet. */
    private static final class Tape {
        private final byte[] bytes = new byte[TAPE_MOST];
        private int length;

        private void putNumber(int number) {
            for (int shift = 24; shift >= 0; shift -= 8) {
                putByte(number >>> shift);
            }
        }

        private void putByte(int value) {
            if (length >= 0 && length < TAPE_MOST) {
                bytes[length] = (byte) value;
                length++;
            }
        }

        /** NONE behind the end, so that the end is like a byte that fits nowhere. */
        private int byteAt(int at) {
            return at >= 0 && at < length && at < TAPE_MOST ? bytes[at] & 255 : NONE;
        }
    }

    /** The clauses by their words, each with its place in the agreement's row and the numbers it may tell. */
    private enum Clause {
        GANG_MEN("gang", GANG, 1, 8),
        RATE_OF_SKILL("rate", RATE, 1, 500),
        CRANES_A_CALL("cranes", CRANES, 1, 12),
        BAR_CALLS("bar", BAR, 0, 20),
        PAY_AN_HOUR("pay", PAY, 0, 1000),
        RAIN_SHARE("rain", RAIN, 0, 100),
        BROKEN_HOURS("broken", BROKEN, 0, 4),
        FIRST_SHIPS("first", FIRST, FIRST_WAITING, FIRST_NUMBER);

        private final String word;
        private final int place;
        private final int least;
        private final int most;

        Clause(String word, int place, int least, int most) {
            this.word = word;
            this.place = place;
            this.least = least;
            this.most = most;
        }
    }

    /** Reads the tape as an agreement's text, into a row of its own: a wrong text must leave all as it is. */
    private static final class Reader {
        private static final Clause[] CLAUSES = Clause.values();

        private final Tape tape;
        private final int[] told = new int[SAYINGS];
        private int at;
        private int wrongAt = NONE;

        private Reader(Tape tape) {
            this.tape = tape;
        }

        /** How many clauses; NONE, with wrongAt set, for a wrong text. */
        private int readText(int[] agreement) {
            System.arraycopy(agreement, 0, told, 0, SAYINGS);
            at = 0;
            wrongAt = NONE;
            for (int clauses = 1; clauses <= TAPE_MOST; clauses++) {
                if (!readClause()) {
                    return NONE;
                }
                skipBlanks();
                if (at == tape.length) {
                    return clauses;
                }
                if (tape.byteAt(at) != ';') {
                    return wrongHere(at);
                }
                at++;
            }
            return wrongHere(at);
        }

        private boolean readClause() {
            skipBlanks();
            int behind = wordEnd(at);
            Clause clause = clauseOf(at, behind);
            if (clause == null) {
                wrongAt = at;
                return false;
            }
            at = behind;
            int place = clause.place;
            if (clause == Clause.RATE_OF_SKILL) {
                int skill = readNumber(0, SKILL_MOST);
                if (skill == NONE) {
                    return false;
                }
                place += skill;
            }
            int value = clause == Clause.FIRST_SHIPS ? readOrder() : readNumber(clause.least, clause.most);
            if (value == NONE || place < 0 || place >= SAYINGS) {
                return false;
            }
            told[place] = value;
            return true;
        }

        private Clause clauseOf(int begin, int behind) {
            for (Clause clause : CLAUSES) {
                if (isWord(clause.word, begin, behind)) {
                    return clause;
                }
            }
            return null;
        }

        private int readOrder() {
            skipBlanks();
            int begin = at;
            at = wordEnd(begin);
            if (isWord("waiting", begin, at)) {
                return FIRST_WAITING;
            }
            if (isWord("tons", begin, at)) {
                return FIRST_TONS;
            }
            if (isWord("number", begin, at)) {
                return FIRST_NUMBER;
            }
            return wrongHere(begin);
        }

        private int readNumber(int least, int most) {
            skipBlanks();
            int begin = at;
            int value = 0;
            while (at - begin <= DIGITS_MOST && isDigit(tape.byteAt(at))) {
                value = value * 10 + tape.byteAt(at) - '0';
                at++;
            }
            int digits = at - begin;
            if (digits < 1 || digits > DIGITS_MOST || value < least || value > most) {
                return wrongHere(begin);
            }
            return value;
        }

        private int wrongHere(int place) {
            wrongAt = place;
            return NONE;
        }

        private void skipBlanks() {
            while (at < tape.length && tape.byteAt(at) == ' ') {
                at++;
            }
        }

        private int wordEnd(int begin) {
            int behind = begin;
            while (behind < tape.length && isLetter(tape.byteAt(behind))) {
                behind++;
            }
            return behind;
        }

        private boolean isWord(String word, int begin, int behind) {
            if (word.length() != behind - begin) {
                return false;
            }
            for (int i = 0; i < word.length(); i++) {
                if (tape.byteAt(begin + i) != word.charAt(i)) {
                    return false;
                }
            }
            return true;
        }

        private static boolean isLetter(int value) {
            return value >= 'a' && value <= 'z';
        }

        private static boolean isDigit(int value) {
            return value >= '0' && value <= '9';
        }
    }

    /** The men, a column each, by their cards. */
    private static final class Men {
        private final int[] skills = new int[MEN_MOST];
        private final int[] turns = new int[MEN_MOST];
        private final int[] barredUpTo = new int[MEN_MOST];
        private final int[] refusals = new int[MEN_MOST];
        private final int[] gangShip = new int[MEN_MOST];
        private final int[] gangHatch = new int[MEN_MOST];
        private final int[] line = new int[MEN_MOST];
        private int size;

        private boolean has(int card) {
            return card >= 0 && card < size;
        }

        private int add(int skillSet) {
            int card = size;
            if (card >= MEN_MOST) {
                return NONE;
            }
            skills[card] = skillSet;
            barredUpTo[card] = NONE;
            leaveGang(card);
            size++;
            return card;
        }

        private boolean isBarred(int card, int number) {
            return barredUpTo[card] >= number;
        }

        private boolean mayBeAsked(int card, int skill, int number) {
            return (skills[card] >> skill & 1) == 1 && !isBarred(card, number) && gangShip[card] == NONE;
        }

        private void refuse(int card, int upTo) {
            barredUpTo[card] = upTo;
            refusals[card]++;
        }

        private void joinGang(int card, int ship, int hatch) {
            gangShip[card] = ship;
            gangHatch[card] = hatch;
            turns[card]++;
        }

        private void leaveGang(int card) {
            gangShip[card] = NONE;
            gangHatch[card] = NONE;
        }

        private void leaveGangs() {
            for (int card = 0; card < size; card++) {
                leaveGang(card);
            }
        }

        /** Fewer turns first, then the lesser card: cards come in rising, so equals keep their order. */
        private void lineUp() {
            for (int card = 0; card < size; card++) {
                int at = card;
                while (at > 0 && turns[line[at - 1]] > turns[card]) {
                    line[at] = line[at - 1];
                    at--;
                }
                line[at] = card;
            }
        }
    }

    /** The ships, a column each, and their hatches, four places a ship. */
    private static final class Ships {
        private final int[] came = new int[SHIPS_MOST];
        private final int[] hatches = new int[SHIPS_MOST];
        private final int[] waited = new int[SHIPS_MOST];
        private final int[] left = new int[SHIPS_MOST * HATCHES_MOST];
        private final int[] skill = new int[SHIPS_MOST * HATCHES_MOST];
        private final boolean[] dry = new boolean[SHIPS_MOST * HATCHES_MOST];
        private final int[] line = new int[SHIPS_MOST];
        private final int[] rank = new int[SHIPS_MOST];
        private int inLine;
        private int size;

        private static int place(int ship, int hatch) {
            return ship * HATCHES_MOST + hatch;
        }

        private boolean has(int ship) {
            return ship >= 0 && ship < size;
        }

        private int add(int number) {
            int ship = size;
            if (ship >= SHIPS_MOST) {
                return NONE;
            }
            came[ship] = number;
            size++;
            return ship;
        }

        private int addHatch(int ship, int tonsOfIt, int skillOfIt, boolean dryOrNot) {
            int hatch = hatches[ship];
            if (hatch >= HATCHES_MOST) {
                return NONE;
            }
            int place = place(ship, hatch);
            left[place] = tonsOfIt;
            skill[place] = skillOfIt;
            dry[place] = dryOrNot;
            hatches[ship]++;
            return hatch;
        }

        private int tonsOf(int ship) {
            int sum = 0;
            for (int hatch = 0; hatch < hatches[ship]; hatch++) {
                sum += left[place(ship, hatch)];
            }
            return sum;
        }

        private int tonsLeft() {
            int sum = 0;
            for (int ship = 0; ship < size; ship++) {
                sum += tonsOf(ship);
            }
            return sum;
        }

        private boolean isDone(int ship) {
            return tonsOf(ship) == 0;
        }

        /** Ships that are not done, the least rank first; they come in rising, so equals keep their order. */
        private void lineUp(int first) {
            inLine = 0;
            for (int ship = 0; ship < size; ship++) {
                int sum = tonsOf(ship);
                if (sum == 0) {
                    continue;
                }
                rank[ship] = rankOf(ship, first, sum);
                int at = inLine;
                while (at > 0 && rank[line[at - 1]] > rank[ship]) {
                    line[at] = line[at - 1];
                    at--;
                }
                line[at] = ship;
                inLine++;
            }
        }

        private int rankOf(int ship, int first, int sum) {
            if (first == FIRST_WAITING) {
                return came[ship];
            }
            return first == FIRST_TONS ? -sum : ship;
        }

        private void countWaiting() {
            for (int ship = 0; ship < size; ship++) {
                if (!isDone(ship)) {
                    waited[ship]++;
                }
            }
        }
    }

    /** The pay that was made, and what was ruled of it. */
    private static final class Ledger {
        private final int[] madeAt = new int[ENTRIES_MOST];
        private final int[] card = new int[ENTRIES_MOST];
        private final int[] money = new int[ENTRIES_MOST];
        private final int[] latestRuling = new int[ENTRIES_MOST];
        private final int[] rulingFrom = new int[RULINGS_MOST];
        private final int[] rulingMoney = new int[RULINGS_MOST];
        private final int[] rulingBefore = new int[RULINGS_MOST];
        private int size;
        private int rulings;
        private int paid;

        private boolean has(int entry) {
            return entry >= 0 && entry < size;
        }

        /** Pay is pay even where the entry is one too many to be kept. */
        private void add(int number, int man, int pay) {
            paid += pay;
            if (size >= ENTRIES_MOST) {
                return;
            }
            madeAt[size] = number;
            card[size] = man;
            money[size] = pay;
            latestRuling[size] = NONE;
            size++;
        }

        private boolean addRuling(int entry, int newMoney, int from) {
            if (rulings >= RULINGS_MOST) {
                return false;
            }
            rulingFrom[rulings] = from;
            rulingMoney[rulings] = newMoney;
            rulingBefore[rulings] = latestRuling[entry];
            latestRuling[entry] = rulings;
            rulings++;
            return true;
        }

        /** An entry's rulings stand from the latest back, so the first that was known by then counts. */
        private int knownMoney(int entry, int known) {
            int ruling = latestRuling[entry];
            for (int steps = 0; steps < rulings && ruling >= 0 && ruling < rulings; steps++) {
                if (rulingFrom[ruling] <= known) {
                    return rulingMoney[ruling];
                }
                ruling = rulingBefore[ruling];
            }
            return money[entry];
        }

        /** Entries stand in the order of their calls, so the first one too late ends the sum. */
        private int sumOf(int man, int upTo, int known) {
            int sum = 0;
            for (int entry = 0; entry < size && madeAt[entry] <= upTo && madeAt[entry] < known; entry++) {
                if (card[entry] == man) {
                    sum += knownMoney(entry, known);
                }
            }
            return sum;
        }
    }

    /** Holds the calls, one behind the other. */
    private static final class Round {
        private final int[] agreement;
        private final Men men;
        private final Ships ships;
        private final Ledger ledger;
        private final int[] gang = new int[GANG_MOST];
        private int number;
        private int gangsInAll;
        private int tonsMoved;
        private int idle;
        private int worked;
        private int rained;

        private Round(int[] agreement, Men men, Ships ships, Ledger ledger) {
            this.agreement = agreement;
            this.men = men;
            this.ships = ships;
            this.ledger = ledger;
        }

        /**
         * No hatch's work touches another's and no man is in two gangs, so each gang can
         * work and be paid as soon as it is there.
         */
        private int hold(int rain, int unwilling) {
            men.leaveGangs();
            men.lineUp();
            ships.lineUp(agreement[FIRST]);
            idle = 0;
            int gangs = 0;
            for (int i = 0; i < ships.inLine; i++) {
                gangs += serveShip(ships.line[i], agreement[CRANES] - gangs, rain, unwilling);
            }
            ships.countWaiting();
            gangsInAll += gangs;
            number++;
            return gangs;
        }

        private int serveShip(int ship, int cranes, int rain, int unwilling) {
            int gangs = 0;
            for (int hatch = 0; hatch < ships.hatches[ship] && gangs < cranes; hatch++) {
                int place = Ships.place(ship, hatch);
                if (ships.left[place] == 0) {
                    continue;
                }
                if (musterGang(ships.skill[place], unwilling)) {
                    workHatch(place, rain);
                    payGang(ship, hatch);
                    gangs++;
                } else {
                    idle++;
                }
            }
            return gangs;
        }

        private boolean musterGang(int skill, int unwilling) {
            int full = Math.min(agreement[GANG], GANG_MOST);
            int there = 0;
            for (int i = 0; i < men.size && there < full; i++) {
                int card = men.line[i];
                if (!men.mayBeAsked(card, skill, number)) {
                    continue;
                }
                if ((unwilling >> card & 1) == 1) {
                    men.refuse(card, number + agreement[BAR]);
                } else {
                    gang[there] = card;
                    there++;
                }
            }
            return there == full;
        }

        private void workHatch(int place, int rain) {
            worked = 0;
            rained = 0;
            int rate = agreement[RATE + ships.skill[place]];
            for (int hour = 0; hour < HOURS && ships.left[place] > 0; hour++) {
                if (ships.dry[place] && (rain >> hour & 1) == 1) {
                    rained++;
                } else {
                    int moved = Math.min(rate, ships.left[place]);
                    ships.left[place] -= moved;
                    tonsMoved += moved;
                    worked++;
                }
            }
        }

        private void payGang(int ship, int hatch) {
            int pay = payOfMan();
            for (int i = 0; i < agreement[GANG] && i < GANG_MOST; i++) {
                men.joinGang(gang[i], ship, hatch);
                ledger.add(number, gang[i], pay);
            }
        }

        private int payOfMan() {
            int anHour = agreement[PAY];
            int broken = Math.max(0, agreement[BROKEN] - worked - rained);
            return anHour * worked + anHour * rained * agreement[RAIN] / 100 + anHour * broken;
        }
    }

    /**
     * The least waiting of up to four ships. A state tells how many gang-calls each ship still
     * needs, a digit to the base nine each, the first ship's the lowest.
     */
    private static final class Planner {
        private static final int BASE = PLAN_NEED_MOST + 1;
        private static final int STATES = BASE * BASE * BASE * BASE;
        private static final int UNREACHED = Integer.MAX_VALUE;

        private final int[] need = new int[PLAN_SHIPS];
        private final int[] takes = new int[PLAN_SHIPS];
        private final int[] room = new int[PLAN_SHIPS];
        private final int[] waiting = new int[STATES];
        private final int[] answers = new int[PLAN_GANGS_MOST + 1];
        private int size;

        private Planner() {
            Arrays.fill(answers, NONE);
        }

        private int add(int gangs, int most) {
            if (size >= PLAN_SHIPS) {
                return NONE;
            }
            need[size] = gangs;
            takes[size] = most;
            size++;
            Arrays.fill(answers, NONE);
            return size;
        }

        private int clear() {
            int were = size;
            size = 0;
            Arrays.fill(need, 0);
            Arrays.fill(answers, NONE);
            return were;
        }

        /** Kept for each number of gangs till the ships change, as the search is dear. */
        private int leastWaiting(int gangs) {
            if (answers[gangs] == NONE) {
                answers[gangs] = search(gangs);
            }
            return answers[gangs];
        }

        /** Every sending leads to a lower state, so one way down over the states sees each at its least. */
        private int search(int gangs) {
            int start = 0;
            for (int ship = PLAN_SHIPS - 1; ship >= 0; ship--) {
                start = start * BASE + need[ship];
            }
            if (start < 0 || start >= STATES) {
                return NONE;
            }
            Arrays.fill(waiting, 0, start + 1, UNREACHED);
            waiting[start] = 0;
            for (int state = start; state > 0; state--) {
                if (waiting[state] != UNREACHED) {
                    sendGangs(state, gangs);
                }
            }
            return waiting[0];
        }

        /** Needing less is never worse, so as many gangs are sent as there are and as can be taken. */
        private void sendGangs(int state, int gangs) {
            int sum = waiting[state];
            int all = 0;
            int rest = state;
            for (int ship = 0; ship < PLAN_SHIPS; ship++) {
                int needs = rest % BASE;
                rest = rest / BASE;
                if (needs > 0) {
                    sum++;
                }
                room[ship] = Math.min(takes[ship], needs);
                all += room[ship];
            }
            spread(state, Math.min(gangs, all), sum);
        }

        /** All ways to send just so many gangs; each loop leaves no more than the ships behind it can take. */
        private void spread(int state, int gangs, int sum) {
            int lastTwo = room[2] + room[3];
            for (int a = Math.max(0, gangs - room[1] - lastTwo); a <= Math.min(room[0], gangs); a++) {
                int behindA = gangs - a;
                for (int b = Math.max(0, behindA - lastTwo); b <= Math.min(room[1], behindA); b++) {
                    int behindB = behindA - b;
                    for (int c = Math.max(0, behindB - room[3]); c <= Math.min(room[2], behindB); c++) {
                        int d = behindB - c;
                        reach(state - a - BASE * (b + BASE * (c + BASE * d)), sum);
                    }
                }
            }
        }

        private void reach(int state, int sum) {
            if (state >= 0 && state < STATES && sum < waiting[state]) {
                waiting[state] = sum;
            }
        }
    }
}
