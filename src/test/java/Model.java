import java.util.ArrayList;
import java.util.Arrays;
import java.util.Comparator;
import java.util.HashMap;
import java.util.List;
import java.util.Map;
import java.util.NoSuchElementException;
import java.util.regex.Matcher;
import java.util.regex.Pattern;

/** The document once more, as literally as can be and with the whole library, to hold DockCall against. */
final class Model {
    private static final Pattern THING = Pattern.compile("[a-z]+|[0-9]+|[^ ]", Pattern.DOTALL);
    private static final List<String> PLAIN = List.of("gang", "cranes", "bar", "pay", "rain", "broken");
    private static final int[][] PLAIN_RANGE = {{1, 8}, {1, 12}, {0, 20}, {0, 1000}, {0, 100}, {0, 4}};
    private static final List<String> ORDERS = List.of("waiting", "tons", "number");

    private static final class Man {
        int skills;
        int turns;
        int barredUpTo = -1;
        int refused;
        Hatch hatch;
    }

    private static final class Ship {
        int number;
        int came;
        int waited;
        List<Hatch> hatches = new ArrayList<>();

        int tons() {
            return hatches.stream().mapToInt(h -> h.tons).sum();
        }
    }

    private static final class Hatch {
        Ship ship;
        int number;
        int tons;
        int skill;
        boolean dry;
        List<Man> gang;
        int worked;
        int rained;
    }

    private static final class Entry {
        int call;
        int card;
        int money;
        List<int[]> rulings = new ArrayList<>();
    }

    private final StringBuilder tape = new StringBuilder();
    private int[] agreement = {4, 12, 2, 10, 50, 2, 0, 10, 10, 10, 10};
    private int fault = -1;
    private final List<Man> men = new ArrayList<>();
    private final List<Ship> ships = new ArrayList<>();
    private final List<Entry> entries = new ArrayList<>();
    private final List<int[]> wanted = new ArrayList<>();
    private int calls;
    private int moved;
    private int gangs;
    private int idle;
    private int ruled;
    private int paid;

    int feed(int... numbers) {
        if (tape.length() + 20 > 400) {
            return -1;
        }
        for (int number : numbers) {
            for (int shift = 24; shift >= 0; shift -= 8) {
                tape.append((char) (number >> shift & 255));
            }
        }
        return tape.length();
    }

    boolean end(int n) {
        if (n < 0 || tape.length() < n) {
            return false;
        }
        tape.setLength(n);
        return true;
    }

    int man(int skills) {
        if (skills < 1 || skills > 15) {
            throw new IllegalArgumentException();
        }
        if (men.size() == 24) {
            throw new UnsupportedOperationException();
        }
        Man man = new Man();
        man.skills = skills;
        men.add(man);
        return men.size() - 1;
    }

    int ship() {
        if (ships.size() == 10) {
            throw new UnsupportedOperationException();
        }
        Ship ship = new Ship();
        ship.number = ships.size();
        ship.came = calls;
        ships.add(ship);
        return ship.number;
    }

    private static <T> T of(List<T> list, int index) {
        if (index < 0 || index >= list.size()) {
            throw new IndexOutOfBoundsException();
        }
        return list.get(index);
    }

    int hatch(int ship, int tons, int skill, boolean dry) {
        Ship of = of(ships, ship);
        if (tons < 0 || tons > 2000 || skill < 0 || skill > 3) {
            throw new IllegalArgumentException();
        }
        if (of.hatches.size() == 4) {
            throw new UnsupportedOperationException();
        }
        Hatch hatch = new Hatch();
        hatch.ship = of;
        hatch.number = of.hatches.size();
        hatch.tons = tons;
        hatch.skill = skill;
        hatch.dry = dry;
        of.hatches.add(hatch);
        return hatch.number;
    }

    int agree() {
        String text = tape.toString();
        tape.setLength(0);
        List<String> things = new ArrayList<>();
        List<Integer> begins = new ArrayList<>();
        Matcher matcher = THING.matcher(text);
        while (matcher.find()) {
            things.add(matcher.group());
            begins.add(matcher.start());
        }
        things.add("");
        begins.add(text.length());
        int[] told = agreement.clone();
        int[] at = {0};
        int clauses = 0;
        boolean right = true;
        do {
            right = clause(things, at, told);
            clauses++;
            if (right && things.get(at[0]).equals(";")) {
                at[0]++;
                continue;
            }
            break;
        } while (true);
        right = right && things.get(at[0]).isEmpty();
        if (!right) {
            fault = begins.get(at[0]);
            throw new IllegalArgumentException();
        }
        fault = -1;
        agreement = told;
        return clauses;
    }

    /** at[0] stays at what is wrong. */
    private boolean clause(List<String> things, int[] at, int[] told) {
        String word = things.get(at[0]);
        int plain = PLAIN.indexOf(word);
        if (plain >= 0) {
            at[0]++;
            return number(things, at, told, plain, PLAIN_RANGE[plain]);
        }
        if (word.equals("rate")) {
            at[0]++;
            int[] skill = new int[1];
            return number(things, at, skill, 0, new int[] {0, 3})
                && number(things, at, told, 7 + skill[0], new int[] {1, 500});
        }
        if (word.equals("first")) {
            at[0]++;
            int order = ORDERS.indexOf(things.get(at[0]));
            if (order < 0) {
                return false;
            }
            told[6] = order;
            at[0]++;
            return true;
        }
        return false;
    }

    private boolean number(List<String> things, int[] at, int[] into, int place, int[] range) {
        String thing = things.get(at[0]);
        if (!thing.matches("[0-9]{1,4}")) {
            return false;
        }
        int value = Integer.parseInt(thing);
        if (value < range[0] || value > range[1]) {
            return false;
        }
        into[place] = value;
        at[0]++;
        return true;
    }

    int fault() {
        return fault;
    }

    int says(int what) {
        if (what < 0 || what > 10) {
            throw new NoSuchElementException();
        }
        return agreement[what];
    }

    int call(int rain, int unwilling) {
        if (rain < 0 || rain > 15) {
            throw new IllegalArgumentException();
        }
        for (Man man : men) {
            man.hatch = null;
        }
        idle = 0;
        List<Hatch> manned = askMen(shipsInOrder(), unwilling);
        for (int hour = 0; hour < 4; hour++) {
            for (Hatch hatch : manned) {
                workHour(hatch, (rain & 1 << hour) != 0);
            }
        }
        for (Hatch hatch : manned) {
            payGang(hatch);
        }
        for (Ship ship : ships) {
            if (ship.tons() != 0) {
                ship.waited++;
            }
        }
        gangs += manned.size();
        calls++;
        return manned.size();
    }

    private List<Ship> shipsInOrder() {
        List<Ship> order = new ArrayList<>(ships);
        order.removeIf(s -> s.tons() == 0);
        Comparator<Ship> byNumber = Comparator.comparingInt(s -> s.number);
        if (agreement[6] == 0) {
            order.sort(Comparator.<Ship>comparingInt(s -> s.came).thenComparing(byNumber));
        } else if (agreement[6] == 1) {
            order.sort(Comparator.<Ship>comparingInt(Ship::tons).reversed().thenComparing(byNumber));
        } else {
            order.sort(byNumber);
        }
        return order;
    }

    private List<Hatch> askMen(List<Ship> order, int unwilling) {
        List<Hatch> manned = new ArrayList<>();
        for (Ship ship : order) {
            for (Hatch hatch : ship.hatches) {
                if (hatch.tons == 0 || manned.size() == agreement[1]) {
                    continue;
                }
                List<Man> gang = gangFor(hatch, unwilling);
                if (gang == null) {
                    idle++;
                    continue;
                }
                hatch.gang = gang;
                hatch.worked = 0;
                hatch.rained = 0;
                gang.forEach(m -> m.hatch = hatch);
                manned.add(hatch);
            }
        }
        return manned;
    }

    private List<Man> gangFor(Hatch hatch, int unwilling) {
        List<Man> may = new ArrayList<>(men);
        may.removeIf(m -> (m.skills & 1 << hatch.skill) == 0 || m.barredUpTo >= calls || m.hatch != null);
        may.sort(Comparator.<Man>comparingInt(m -> m.turns).thenComparingInt(men::indexOf));
        List<Man> gang = new ArrayList<>();
        for (Man man : may) {
            if (gang.size() == agreement[0]) {
                break;
            }
            if ((unwilling & 1 << men.indexOf(man)) != 0) {
                man.barredUpTo = calls + agreement[2];
                man.refused++;
            } else {
                gang.add(man);
            }
        }
        return gang.size() == agreement[0] ? gang : null;
    }

    private void workHour(Hatch hatch, boolean rains) {
        if (hatch.tons == 0) {
            return;
        }
        if (hatch.dry && rains) {
            hatch.rained++;
            return;
        }
        int now = Math.min(hatch.tons, agreement[7 + hatch.skill]);
        hatch.tons -= now;
        moved += now;
        hatch.worked++;
    }

    private void payGang(Hatch hatch) {
        int hours = hatch.worked + hatch.rained;
        int pay = agreement[3] * hatch.worked
            + Math.floorDiv(agreement[3] * hatch.rained * agreement[4], 100);
        if (hours < agreement[5]) {
            pay += agreement[3] * (agreement[5] - hours);
        }
        for (Man man : hatch.gang) {
            man.turns++;
            paid += pay;
            Entry entry = new Entry();
            entry.call = calls;
            entry.card = men.indexOf(man);
            entry.money = pay;
            if (entries.size() < 800) {
                entries.add(entry);
            }
        }
    }

    int look(int card, int what) {
        Man man = of(men, card);
        int[] all = {man.skills, man.turns, man.barredUpTo >= calls ? 1 : 0, man.refused,
            man.hatch == null ? -1 : man.hatch.ship.number, man.hatch == null ? -1 : man.hatch.number};
        return pick(all, what);
    }

    private static int pick(int[] all, int what) {
        if (what < 0 || what >= all.length) {
            throw new NoSuchElementException();
        }
        return all[what];
    }

    int tons(int ship, int hatch) {
        return of(of(ships, ship).hatches, hatch).tons;
    }

    int state(int number, int what) {
        Ship ship = of(ships, number);
        return pick(new int[] {ship.came, ship.hatches.size(), ship.tons() == 0 ? 1 : 0, ship.waited}, what);
    }

    int entry(int number, int what) {
        Entry entry = of(entries, number);
        return pick(new int[] {entry.call, entry.card, entry.money, known(entry, Integer.MAX_VALUE)}, what);
    }

    private static int known(Entry entry, int k) {
        int money = entry.money;
        for (int[] ruling : entry.rulings) {
            if (ruling[0] <= k) {
                money = ruling[1];
            }
        }
        return money;
    }

    boolean rule(int number, int money) {
        Entry entry = of(entries, number);
        if (money < 0 || money > 100000) {
            throw new IllegalArgumentException();
        }
        if (ruled == 100) {
            return false;
        }
        ruled++;
        entry.rulings.add(new int[] {calls, money});
        return true;
    }

    int earned(int card, int upTo, int k) {
        of(men, card);
        return entries.stream().filter(e -> e.card == card && e.call <= upTo && !(e.call >= k))
            .mapToInt(e -> known(e, k)).sum();
    }

    int want(int needs, int most) {
        if (needs < 0 || needs > 8 || most < 1 || most > 4) {
            throw new IllegalArgumentException();
        }
        if (wanted.size() == 4) {
            return -1;
        }
        wanted.add(new int[] {needs, most});
        return wanted.size();
    }

    int unwant() {
        int were = wanted.size();
        wanted.clear();
        return were;
    }

    int plan(int k) {
        if (k < 1 || k > 8) {
            throw new IllegalArgumentException();
        }
        int[] needs = wanted.stream().mapToInt(w -> w[0]).toArray();
        return least(needs, k, new HashMap<>());
    }

    /** A call costs as many as still wait ahead of it; every way to send up to k gangs is tried. */
    private int least(int[] needs, int k, Map<String, Integer> known) {
        int waiting = (int) Arrays.stream(needs).filter(n -> n > 0).count();
        if (waiting == 0) {
            return 0;
        }
        String key = Arrays.toString(needs);
        Integer before = known.get(key);
        if (before != null) {
            return before;
        }
        List<int[]> behind = new ArrayList<>();
        send(needs.clone(), 0, k, behind);
        int best = Integer.MAX_VALUE;
        for (int[] next : behind) {
            if (!Arrays.equals(next, needs)) {
                best = Math.min(best, waiting + least(next, k, known));
            }
        }
        known.put(key, best);
        return best;
    }

    private void send(int[] needs, int ship, int gangsLeft, List<int[]> behind) {
        if (ship == needs.length) {
            behind.add(needs.clone());
            return;
        }
        int most = Math.min(gangsLeft, Math.min(needs[ship], wanted.get(ship)[1]));
        for (int sent = 0; sent <= most; sent++) {
            needs[ship] -= sent;
            send(needs, ship + 1, gangsLeft - sent, behind);
            needs[ship] += sent;
        }
    }

    int count(int what) {
        int left = ships.stream().mapToInt(Ship::tons).sum();
        int[] all = {men.size(), ships.size(), calls, entries.size(), left, moved, gangs, idle, ruled, paid};
        return what < 0 || what > 9 ? -1 : all[what];
    }
}
