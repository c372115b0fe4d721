/** Promise 19 over its whole domain: every four ships (their order apart) and every number of gangs. */
public final class PlanTest {
    private static final int STATES = 9 * 9 * 9 * 9;

    public static void main(String[] args) {
        Check check = new Check("every plan");
        DockCall dock = new DockCall();
        for (int a = 1; a <= 4; a++) {
            for (int b = a; b <= 4; b++) {
                for (int c = b; c <= 4; c++) {
                    for (int d = c; d <= 4; d++) {
                        allNeeds(check, dock, new int[] {a, b, c, d});
                    }
                }
            }
        }
        check.end();
    }

    private static void allNeeds(Check check, DockCall dock, int[] most) {
        int[][] due = new int[9][];
        for (int gangs = 1; gangs <= 8; gangs++) {
            due[gangs] = table(most, gangs);
        }
        for (int state = 0; state < STATES; state++) {
            int[] needs = needs(state);
            if (mirrored(needs, most)) {
                continue;
            }
            dock.unwant();
            for (int ship = 0; ship < 4; ship++) {
                dock.want(needs[ship], most[ship]);
            }
            for (int gangs = 1; gangs <= 8; gangs++) {
                int got = dock.plan(gangs);
                if (got != due[gangs][state]) {
                    check.is("plan(" + gangs + ") of state " + state, due[gangs][state], got);
                }
            }
            check.is("ships", 4, dock.unwant());
        }
    }

    /** Ships alike but for their order are looked at once. */
    private static boolean mirrored(int[] needs, int[] most) {
        for (int ship = 1; ship < 4; ship++) {
            if (most[ship] == most[ship - 1] && needs[ship] < needs[ship - 1]) {
                return true;
            }
        }
        return false;
    }

    private static int[] needs(int state) {
        return new int[] {state / 729, state / 81 % 9, state / 9 % 9, state % 9};
    }

    /** From what needs least upwards, over all sendings of up to so many gangs. */
    private static int[] table(int[] most, int gangs) {
        int[] least = new int[STATES];
        for (int state = 1; state < STATES; state++) {
            int[] needs = needs(state);
            int best = Integer.MAX_VALUE;
            for (int a = 0; a <= Math.min(most[0], needs[0]); a++) {
                for (int b = 0; b <= Math.min(most[1], needs[1]); b++) {
                    for (int c = 0; c <= Math.min(most[2], needs[2]); c++) {
                        for (int d = 0; d <= Math.min(most[3], needs[3]); d++) {
                            int sent = a + b + c + d;
                            if (sent > 0 && sent <= gangs) {
                                best = Math.min(best, least[state - 729 * a - 81 * b - 9 * c - d]);
                            }
                        }
                    }
                }
            }
            int waiting = 0;
            for (int need : needs) {
                waiting += need > 0 ? 1 : 0;
            }
            least[state] = best + waiting;
        }
        return least;
    }
}
