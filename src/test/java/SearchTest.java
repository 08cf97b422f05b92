import java.util.HashMap;
import java.util.Map;
import java.util.Random;

/** Long TOURS and settlings of all ten: larger than Model can try, so they are searched with what was found kept. */
public final class SearchTest {
    private static final Calls T = new Calls("SearchTest");
    private static final Random DICE = new Random(20261119);
    private static final int DONE = -2;
    private static final int NO_WAY = -1;
    private static final int MOST_OF_ONE_PAIR = 20;

    /** DEBTS of few, from whom a row is searched; what was found is kept by where THE COIN is and what is left. */
    private static final class Search {
        final int people;
        final int[][] debts;
        final Map<Long, Integer> found = new HashMap<>();

        Search(int people) {
            this.people = people;
            debts = new int[people][people];
        }

        int left() {
            int sum = 0;
            for (int[] row : debts) {
                for (int n : row) {
                    sum += n;
                }
            }
            return sum;
        }

        /** The lowest one who is paid next in a row that pays all. */
        int next(int at, int left) {
            if (left == 0) {
                return DONE;
            }
            long key = at;
            for (int[] row : debts) {
                for (int n : row) {
                    key = key * (MOST_OF_ONE_PAIR + 1) % 9007199254740881L + n;
                }
            }
            Integer known = found.get(key);
            if (known != null) {
                return known;
            }
            int answer = NO_WAY;
            for (int q = 0; q < people && answer == NO_WAY; q++) {
                if (debts[at][q] > 0) {
                    debts[at][q]--;
                    answer = next(q, left - 1) == NO_WAY ? NO_WAY : q;
                    debts[at][q]++;
                }
            }
            found.put(key, answer);
            return answer;
        }
    }

    public static void main(String[] args) {
        for (int run = 0; run < 2000; run++) {
            tour();
        }
        for (int run = 0; run < 500; run++) {
            fewest();
        }
        T.end();
    }

    private static void tour() {
        T.says("THE TOUR: all DEBTS paid in one row from who HOLDS it; the least row; whether it comes home");
        Search search = new Search(2 + DICE.nextInt(3));
        int first = DICE.nextInt(search.people);
        owe(search, first, 10 + DICE.nextInt(search.people == 4 ? 18 : 30));
        OneCoin x = Calls.people(search.people);
        for (int a = 0; a < search.people; a++) {
            for (int b = 0; b < search.people; b++) {
                x.debt(a, b, search.debts[a][b]);
            }
        }
        int home = DICE.nextInt(4) == 0 ? DICE.nextInt(search.people) : first;
        x.coin(home);
        int left = search.left();
        T.due("how many", x.tour(101), left);
        boolean can = search.next(home, left) != NO_WAY;
        T.due("whether it can be", x.tour(100), can ? 1 : 0);
        int at = home;
        for (int k = 0; k < left && can; k++) {
            int next = search.next(at, left - k);
            T.due("at " + k, x.tour(k), next);
            search.debts[at][next]--;
            at = next;
        }
        T.due("home", x.tour(102), can ? (at == home ? 1 : 0) : -4);
    }

    /** DEBTS along a row, now and then with one more that may spoil it. */
    private static void owe(Search search, int first, int many) {
        int at = first;
        for (int k = 0; k < many; k++) {
            int next = another(search, at);
            if (search.debts[at][next] >= MOST_OF_ONE_PAIR) {
                return;
            }
            search.debts[at][next]++;
            at = next;
        }
        int payer = DICE.nextInt(search.people);
        int payee = another(search, payer);
        if (DICE.nextInt(3) == 0 && search.debts[payer][payee] < MOST_OF_ONE_PAIR) {
            search.debts[payer][payee]++;
        }
    }

    private static int another(Search search, int one) {
        return (one + 1 + DICE.nextInt(search.people - 1)) % search.people;
    }

    private static void fewest() {
        T.says("FEWEST: payings of any amount, from anybody to anybody, by which all would be settled");
        OneCoin x = Calls.people(10);
        int most = 2 + DICE.nextInt(40);
        for (int k = 0; k < 20; k++) {
            x.debt(DICE.nextInt(10), DICE.nextInt(10), DICE.nextInt(most));
        }
        int[] more = new int[10];
        int many = 0;
        for (int p = 0; p < 10; p++) {
            more[many] = x.setOff(p);
            many += more[many] != 0 ? 1 : 0;
        }
        T.due("payings", x.fewest(), many - parts(more, many));
    }

    /** Into how many parts, each even in itself, so many can be parted at most: the part of the lowest is split off. */
    private static int parts(int[] more, int many) {
        int[] best = new int[1 << many];
        for (int all = 1; all < 1 << many; all++) {
            best[all] = Integer.MIN_VALUE / 2;
            for (int part = all; part > 0; part = part - 1 & all) {
                int sum = 0;
                for (int k = 0; k < many; k++) {
                    sum += (part >> k & 1) * more[k];
                }
                if (sum == 0 && (part & all & -all) != 0) {
                    best[all] = Math.max(best[all], 1 + best[all & ~part]);
                }
            }
        }
        return best[(1 << many) - 1];
    }
}
