import java.util.Arrays;

/** A state with a single coin: who owes whom, by what law it is paid, and what follows from it. */
public final class OneCoin {
    public static final int NONE = -1;

    private static final int PEOPLE = 10;
    private static final int PAIRS = PEOPLE * PEOPLE;
    private static final int SPOTS = 10;
    private static final int MOST_OWED = 99;
    private static final int TAPE_BYTES = 260;
    private static final int FED_BYTES = 20;
    private static final int LAW_BYTES = 240;
    private static final int DEBTS_BYTES = 160;
    private static final int ROUTE_BYTES = 60;
    private static final int MOST_RULES = 16;
    private static final int MOST_LINES = 30;
    private static final int MOST_OPEN = 6;
    private static final int MOST_NESTED = 2;
    private static final int MOST_DIGITS = 5;
    private static final int MOST_PAYINGS = 60;
    private static final int MOST_HOURS = 240;
    private static final int LAST_HOUR = 23;
    private static final int LAST_DAY = 9999;
    private static final int FIRST_PAYING_HOUR = 6;
    private static final int LAST_PAYING_HOUR = 19;
    private static final int CHALKED = 40;
    private static final int MOST_LIKING = 9999;
    private static final int MOST_GROWTH = 9;
    private static final int MOST_RAIN = 10;
    private static final int MOST_DRY_DAYS = 9;
    private static final int MOST_SEED = 65535;
    private static final int MOST_TOLD_COINS = 255;
    private static final int ROW_DEBTS = 12;
    private static final int SHARED_DEBTS = 8;
    private static final int NEW_DEBTS = 6;
    private static final int ALL_GROUPS = 1 << PEOPLE;
    private static final int FAR = 1000000;

    // a what of 100 on asks about a whole, one below it about a place
    private static final int FIRST_WHOLE = 100;
    private static final int SECOND_WHOLE = 101;
    private static final int THIRD_WHOLE = 102;

    private static final int NOT_SO = -2;
    private static final int TOO_MANY = -3;
    private static final int NO_PLACE = -4;
    private static final int NO_SET_OFF = -1000000;

    private static final int END = -1;
    private static final int WRONG_BYTE = 1;
    private static final int SIXTH_DIGIT = 2;
    private static final int NUMBER_ZERO = 3;
    private static final int ONE_MORE = 4;
    private static final int TOO_DEEP = 5;
    private static final int TOO_LONG = 6;
    private static final int TO_ITSELF = 6;
    private static final int NOT_TOLD = 7;

    private final Tape tape = new Tape();
    private final People people = new People();
    private final Duchy now = new Duchy();
    private final Duchy kept = new Duchy();
    private final Duchy trial = new Duchy();
    private final Law law = new Law(people);
    private final Law draft = new Law(people);
    private final LawReader lawReader = new LawReader(tape, draft);
    private final DebtsReader debtsReader = new DebtsReader(tape, people);
    private final RouteReader routeReader = new RouteReader(tape);
    private final Clock clock = new Clock(people, law);
    private final Rows rows = new Rows(people);
    private final Balance balance = new Balance(people);
    private boolean wasKept;

    public OneCoin() {
    }

    public boolean person(int p, int x, int y) {
        if (!isOne(p) || x < 0 || x >= SPOTS || y < 0 || y >= SPOTS) {
            return false;
        }
        people.settle(p, x, y);
        return true;
    }

    public boolean debt(int a, int b, int n) {
        if (!people.hasBoth(a, b) || n < 0 || n > MOST_OWED) {
            return false;
        }
        now.debts[a * PEOPLE + b] = n;
        return true;
    }

    public boolean coin(int p) {
        if (!people.has(p)) {
            return false;
        }
        now.giveTo(p);
        return true;
    }

    public int feed(int a, int b, int c, int d, int e) {
        if (tape.size() + FED_BYTES > TAPE_BYTES) {
            return NONE;
        }
        tape.add(a);
        tape.add(b);
        tape.add(c);
        tape.add(d);
        tape.add(e);
        return tape.size();
    }

    public int law(int n) {
        if (!tape.opens(n, 1, LAW_BYTES)) {
            return NONE;
        }
        int answer = lawReader.read();
        tape.clear();
        if (answer > 0) {
            law.takeFrom(draft);
        }
        return answer;
    }

    public int debts(int n) {
        if (!tape.opens(n, 1, DEBTS_BYTES)) {
            return NONE;
        }
        int fault = debtsReader.read();
        tape.clear();
        if (fault != 0) {
            return fault;
        }
        System.arraycopy(debtsReader.draft, 0, now.debts, 0, PAIRS);
        return now.owedInAll();
    }

    public int hours(int n) {
        if (!areHours(n)) {
            return NONE;
        }
        clock.pass(now, n);
        return clock.payings;
    }

    public int tried(int n, int what) {
        boolean ofOne = people.has(what - 10);
        if (!areHours(n) || ((what < 0 || what > 5) && !ofOne)) {
            return NONE;
        }
        trial.takeFrom(now);
        clock.pass(trial, n);
        switch (what) {
            case 0:
                return clock.payings;
            case 1:
                return trial.owedInAll();
            case 2:
                return trial.holder < 0 ? NOT_SO : trial.holder;
            case 3:
                return clock.rainyDays;
            case 4:
                return clock.interest;
            case 5:
                return trial.hour;
            default:
                return trial.held[what - 10] - now.held[what - 10];
        }
    }

    public int personIs(int p, int what) {
        if (!people.has(p)) {
            return NONE;
        }
        switch (what) {
            case 0:
                return people.spotX[p];
            case 1:
                return people.spotY[p];
            case 2:
                return now.owedBy(p);
            case 3:
                return now.owedTo(p);
            case 4:
                return now.held[p];
            case 5:
                return now.timesChalked(p);
            default:
                return NONE;
        }
    }

    public int owes(int a, int b) {
        return people.hasBoth(a, b) ? now.debtOf(a, b) : NONE;
    }

    public int likes(int a, int b) {
        return people.hasBoth(a, b) ? law.liking(now, a, b) : NONE;
    }

    public int route(int n, int what) {
        if (what < 0 || what > 2 || !tape.opens(n, 1, ROUTE_BYTES)) {
            return NONE;
        }
        int fault = readRoute();
        if (fault != 0) {
            return fault;
        }
        trial.takeFrom(now);
        int payings = routeReader.walkedBy(trial);
        switch (what) {
            case 0:
                return payings;
            case 1:
                return people.hoursOf(routeReader.row, payings, now.holder);
            default:
                return trial.holder;
        }
    }

    public int walk(int n) {
        if (!tape.opens(n, 1, ROUTE_BYTES)) {
            return NONE;
        }
        int fault = readRoute();
        return fault != 0 ? fault : routeReader.walkedBy(now);
    }

    public int tour(int what) {
        boolean isPlace = what >= 0 && what < MOST_PAYINGS;
        if (!isPlace && what != FIRST_WHOLE && what != SECOND_WHOLE && what != THIRD_WHOLE) {
            return NONE;
        }
        if (now.holder < 0) {
            return NOT_SO;
        }
        int many = now.owedInAll();
        if (many > MOST_PAYINGS) {
            return TOO_MANY;
        }
        if (what == SECOND_WHOLE) {
            return many;
        }
        boolean can = Rows.isOneRow(now.debts, now.holder);
        if (what == FIRST_WHOLE) {
            return can ? 1 : 0;
        }
        if (!can || (isPlace && what >= many)) {
            return NO_PLACE;
        }
        rows.planTour(now.debts, now.holder, many);
        if (what == THIRD_WHOLE) {
            return many == 0 || rows.row[many - 1] == now.holder ? 1 : 0;
        }
        return rows.row[what];
    }

    public int most(int what) {
        boolean isPlace = what >= 0 && what < ROW_DEBTS;
        if (!isPlace && what != FIRST_WHOLE) {
            return NONE;
        }
        if (now.holder < 0) {
            return NOT_SO;
        }
        if (now.owedInAll() > ROW_DEBTS) {
            return TOO_MANY;
        }
        int longest = rows.planMost(now.debts, now.holder);
        if (what == FIRST_WHOLE) {
            return longest;
        }
        return isPlace && what < longest ? rows.best[what] : NO_PLACE;
    }

    public int back(int p, int what) {
        if (!people.has(p) || (what != 0 && what != 1)) {
            return NONE;
        }
        int far = rows.wayBack(now.debts, p, what == 1);
        return far < FAR ? far : NOT_SO;
    }

    public int even(int what) {
        boolean isPlace = what >= 0 && what < NEW_DEBTS;
        if (!isPlace && what != FIRST_WHOLE && what != SECOND_WHOLE) {
            return NONE;
        }
        int many = balance.newDebts(now);
        if (what == FIRST_WHOLE) {
            return many;
        }
        if (many > NEW_DEBTS) {
            return TOO_MANY;
        }
        if (isPlace && what >= many) {
            return NO_PLACE;
        }
        balance.planNewDebts(many);
        return isPlace ? balance.best[what] : balance.bestHours;
    }

    public int turned(int what) {
        if (what != 0 && what != 1) {
            return NONE;
        }
        if (now.owedInAll() > ROW_DEBTS) {
            return TOO_MANY;
        }
        int bits = balance.leastTurned(now);
        if (bits < 0) {
            return NOT_SO;
        }
        return what == 1 ? bits : Integer.bitCount(bits);
    }

    public int setOff(int p) {
        return people.has(p) ? now.owedTo(p) - now.owedBy(p) : NO_SET_OFF;
    }

    public int fewest() {
        return balance.fewestPayings(now);
    }

    public int rings(int what) {
        if (what != FIRST_WHOLE) {
            return people.has(what) ? Rows.ringOf(now.debts, what) : NONE;
        }
        int many = 0;
        for (int p = 0; p < PEOPLE; p++) {
            // a RING is counted at its lowest one alone
            if (people.has(p) && (Rows.ringOf(now.debts, p) & ((1 << p) - 1)) == 0) {
                many++;
            }
        }
        return many;
    }

    public int off() {
        return now.holder < 0 ? NOT_SO : people.told & ~Rows.reachedFrom(now.debts, now.holder);
    }

    public int when(int p, int n) {
        if (!people.has(p) || !areHours(n)) {
            return NONE;
        }
        if (now.holder == p) {
            return 0;
        }
        trial.takeFrom(now);
        for (int hour = 1; hour <= n; hour++) {
            clock.tick(trial);
            if (clock.arrivedAt == p) {
                return hour;
            }
        }
        return NOT_SO;
    }

    public int wedding(int p, int q, int n) {
        if (!people.hasBoth(p, q) || !areHours(n)) {
            return NONE;
        }
        trial.takeFrom(now);
        int dayAtP = NONE;
        int dayAtQ = NONE;
        for (int hour = 0; hour < n; hour++) {
            int day = trial.day;
            clock.tick(trial);
            if (clock.arrivedAt == p) {
                dayAtP = day;
            } else if (clock.arrivedAt == q) {
                dayAtQ = day;
            }
            if (dayAtP == day && dayAtQ == day) {
                return day;
            }
        }
        return NOT_SO;
    }

    public int longest() {
        int best = 0;
        for (int p = 1; p < PEOPLE; p++) {
            if (now.held[p] > now.held[best]) {
                best = p;
            }
        }
        return now.held[best] > 0 ? best : NOT_SO;
    }

    public int chalk(int k) {
        return k >= 0 && k < now.chalked && k < CHALKED ? now.chalks[k] : NONE;
    }

    public int two(int p) {
        if (!people.has(p)) {
            return NONE;
        }
        if (now.holder < 0) {
            return NOT_SO;
        }
        if (now.owedInAll() > SHARED_DEBTS) {
            return TOO_MANY;
        }
        int hours = rows.sharedHours(now, p);
        return hours < FAR ? hours : NO_PLACE;
    }

    public int dry(int n, int what) {
        if (n < 1 || n > MOST_DRY_DAYS || (what != 0 && what != 1)) {
            return NONE;
        }
        int rain = law.rain(now.day);
        int above = 1;
        int below = 1;
        for (int day = 0; day < n; day++) {
            above *= MOST_RAIN - rain;
            below *= MOST_RAIN;
        }
        int divisor = commonDivisor(above, below);
        if (divisor <= 0) {
            return NONE;
        }
        return (what == 0 ? above : below) / divisor;
    }

    public boolean seed(int x) {
        if (x < 0 || x > MOST_SEED) {
            return false;
        }
        now.x = x;
        return true;
    }

    public int keep() {
        kept.takeFrom(now);
        wasKept = true;
        return now.owedInAll();
    }

    public boolean undo() {
        if (wasKept) {
            now.takeFrom(kept);
        }
        return wasKept;
    }

    public int check(int n) {
        if (!tape.opens(n, 0, PEOPLE)) {
            return NOT_SO;
        }
        int wrong = NONE;
        for (int p = 0; p < n && wrong == NONE; p++) {
            if (tape.next() != Math.min(now.owedBy(p), MOST_TOLD_COINS)) {
                wrong = p;
            }
            tape.step();
        }
        tape.clear();
        return wrong;
    }

    public int count(int what) {
        switch (what) {
            case 0:
                return people.told;
            case 1:
                return now.owedInAll();
            case 2:
                return now.holder < 0 ? NOT_SO : now.holder;
            case 3:
                return now.left > 0 ? now.payee : NOT_SO;
            case 4:
                return now.left;
            case 5:
                return now.hour;
            case 6:
                return now.day;
            case 7:
                return now.rainy ? 1 : 0;
            case 8:
                return now.chalked;
            case 9:
                return law.rules;
            case 10:
                return tape.size();
            case 11:
                return now.x;
            default:
                return NONE;
        }
    }

    private static boolean isOne(int p) {
        return p >= 0 && p < PEOPLE;
    }

    private static boolean areHours(int n) {
        return n >= 1 && n <= MOST_HOURS;
    }

    /** Reads the ROUTE off the opened tape: 0, its FAULT, or that nobody HOLDS THE COIN. */
    private int readRoute() {
        int fault = routeReader.read();
        tape.clear();
        if (fault != 0) {
            return fault;
        }
        return now.holder < 0 ? NOT_SO : 0;
    }

    private static int commonDivisor(int a, int b) {
        int greater = a;
        int rest = b;
        // Euclid's steps on ints are fewer than 50
        for (int k = 0; k < 64 && rest != 0; k++) {
            int next = greater % rest;
            greater = rest;
            rest = next;
        }
        return greater;
    }

    /** The bytes that were fed, and the text that is being read off their front. */
    private static final class Tape {
        private final int[] bytes = new int[TAPE_BYTES];
        private int size;
        private int limit;
        private int place;
        private int next = END;

        int size() {
            return size;
        }

        void add(int word) {
            for (int shift = 24; shift >= 0 && size < TAPE_BYTES; shift -= 8) {
                bytes[size] = (word >>> shift) & 255;
                size++;
            }
        }

        void clear() {
            size = 0;
        }

        /** Makes the first n bytes the text to read, if there may be so many and are. */
        boolean opens(int n, int least, int most) {
            if (n < least || n > most || n > size) {
                return false;
            }
            limit = n;
            place = -1;
            step();
            return true;
        }

        int next() {
            return next;
        }

        void step() {
            place++;
            next = place >= 0 && place < limit && place < TAPE_BYTES ? bytes[place] : END;
        }

        boolean ended() {
            return place >= limit;
        }

        int place() {
            return place;
        }

        /** Which one the letter that comes next names; below 0: it is none of a to j. */
        int nextOne() {
            int one = next - 'a';
            return isOne(one) ? one : END;
        }

        boolean nextIsDigit() {
            return next >= '0' && next <= '9';
        }

        int fault(int number) {
            return faultAt(number, place);
        }

        int faultAt(int number, int where) {
            return -1000 * number - where;
        }
    }

    /** Who is told, and where. */
    private static final class People {
        private final int[] spotX = new int[PEOPLE];
        private final int[] spotY = new int[PEOPLE];
        private int told;

        void settle(int p, int x, int y) {
            spotX[p] = x;
            spotY[p] = y;
            told |= 1 << p;
        }

        boolean has(int p) {
            return isOne(p) && (told >> p & 1) == 1;
        }

        boolean hasBoth(int a, int b) {
            return a != b && has(a) && has(b);
        }

        int way(int a, int b) {
            if (!isOne(a) || !isOne(b)) {
                return 1;
            }
            return Math.max(1, Math.abs(spotX[a] - spotX[b]) + Math.abs(spotY[a] - spotY[b]));
        }

        int hoursOf(int[] row, int length, int from) {
            int hours = 0;
            int at = from;
            for (int k = 0; k < length && k < row.length; k++) {
                hours += way(at, row[k]);
                at = row[k];
            }
            return hours;
        }
    }

    /** All that goes on with time, and that can be kept and undone. */
    private static final class Duchy {
        private final int[] debts = new int[PAIRS];
        private final int[] held = new int[PEOPLE];
        private final int[] chalks = new int[CHALKED];
        private int chalked;
        private int holder = NONE;
        private int payer = NONE;
        private int payee = NONE;
        private int left;
        private int hour;
        private int day;
        private boolean rainy;
        private int x = 1;

        void takeFrom(Duchy other) {
            System.arraycopy(other.debts, 0, debts, 0, PAIRS);
            System.arraycopy(other.held, 0, held, 0, PEOPLE);
            System.arraycopy(other.chalks, 0, chalks, 0, CHALKED);
            chalked = other.chalked;
            holder = other.holder;
            payer = other.payer;
            payee = other.payee;
            left = other.left;
            hour = other.hour;
            day = other.day;
            rainy = other.rainy;
            x = other.x;
        }

        void giveTo(int p) {
            holder = p;
            payer = NONE;
            payee = NONE;
            left = 0;
        }

        void sendTo(int p, int hours) {
            payer = holder;
            payee = p;
            left = hours;
            holder = NONE;
        }

        void pay(int from, int to) {
            // the DEBT may have been told anew while THE COIN was on its WAY
            if (debtOf(from, to) > 0) {
                debts[from * PEOPLE + to]--;
            }
            giveTo(to);
            write(to);
        }

        private void write(int p) {
            if (chalked >= CHALKED) {
                System.arraycopy(chalks, 1, chalks, 0, CHALKED - 1);
                chalked = CHALKED - 1;
            }
            chalks[chalked] = p;
            chalked++;
        }

        int debtOf(int from, int to) {
            return isOne(from) && isOne(to) ? debts[from * PEOPLE + to] : 0;
        }

        int timesChalked(int p) {
            int times = 0;
            for (int k = 0; k < chalked && k < CHALKED; k++) {
                if (chalks[k] == p) {
                    times++;
                }
            }
            return times;
        }

        int owedBy(int p) {
            int coins = 0;
            for (int q = 0; q < PEOPLE; q++) {
                coins += debts[p * PEOPLE + q];
            }
            return coins;
        }

        int owedTo(int p) {
            int coins = 0;
            for (int q = 0; q < PEOPLE; q++) {
                coins += debts[q * PEOPLE + p];
            }
            return coins;
        }

        /** Puts the DEBTS into a row, each coin one, as many as it takes: how many. */
        int listCoins(int[] row) {
            int many = 0;
            for (int pair = 0; pair < PAIRS; pair++) {
                for (int coin = 0; coin < debts[pair] && many < row.length; coin++) {
                    row[many] = pair;
                    many++;
                }
            }
            return many;
        }

        int owedInAll() {
            int coins = 0;
            for (int pair = 0; pair < PAIRS; pair++) {
                coins += debts[pair];
            }
            return coins;
        }

        int draw() {
            x = (25173 * x + 13849) & 65535;
            return x % 10;
        }
    }

    /** THE LAW, as steps for a stack: each E leaves its number there, each C 1 or 0. */
    private static final class Law {
        private static final int NUMBER = '0';
        private static final int LETTER = 'a';
        private static final int STACK = 64;
        private static final int HOUR_LETTER = 6;
        private static final int DAY_LETTER = 7;
        private static final int LETTERS = 8;

        private final People people;
        private final int[] steps = new int[LAW_BYTES];
        private final int[] details = new int[LAW_BYTES];
        private final int[] kinds = new int[MOST_RULES];
        private final int[] starts = new int[MOST_RULES];
        private final int[] middles = new int[MOST_RULES];
        private final int[] ends = new int[MOST_RULES];
        private final int[] letters = new int[LETTERS];
        private final int[] stack = new int[STACK];
        private int size;
        private int rules;

        Law(People people) {
            this.people = people;
        }

        void takeFrom(Law other) {
            System.arraycopy(other.steps, 0, steps, 0, LAW_BYTES);
            System.arraycopy(other.details, 0, details, 0, LAW_BYTES);
            System.arraycopy(other.kinds, 0, kinds, 0, MOST_RULES);
            System.arraycopy(other.starts, 0, starts, 0, MOST_RULES);
            System.arraycopy(other.middles, 0, middles, 0, MOST_RULES);
            System.arraycopy(other.ends, 0, ends, 0, MOST_RULES);
            size = other.size;
            rules = other.rules;
        }

        /** Puts a step behind the others: its index. A text has no more steps than bytes. */
        int put(int step, int detail) {
            if (size >= LAW_BYTES) {
                return NONE;
            }
            steps[size] = step;
            details[size] = detail;
            size++;
            return size - 1;
        }

        /** Lets the jump at this index, if there is one, go to the step that comes next. */
        void landHere(int jump) {
            if (jump >= 0 && jump < size) {
                details[jump] = size;
            }
        }

        int liking(Duchy duchy, int from, int to) {
            look(duchy, from, to);
            for (int rule = 0; rule < rules && rule < MOST_RULES; rule++) {
                if (kinds[rule] == 's' && reckoned(middles[rule], ends[rule]) != 0) {
                    return 0;
                }
            }
            return firstOf('e', MOST_LIKING);
        }

        int growth(Duchy duchy, int from, int to) {
            look(duchy, from, to);
            return firstOf('i', MOST_GROWTH);
        }

        int rain(int day) {
            Arrays.fill(letters, 0);
            letters[DAY_LETTER] = day;
            return firstOf('r', MOST_RAIN);
        }

        private void look(Duchy duchy, int from, int to) {
            letters[0] = from;
            letters[1] = to;
            letters[2] = duchy.debtOf(from, to);
            letters[3] = duchy.owedBy(from);
            letters[4] = people.way(from, to);
            letters[5] = duchy.timesChalked(to);
            letters[HOUR_LETTER] = duchy.hour;
            letters[DAY_LETTER] = duchy.day;
        }

        private int firstOf(int kind, int bound) {
            for (int rule = 0; rule < rules && rule < MOST_RULES; rule++) {
                if (kinds[rule] == kind && reckoned(middles[rule], ends[rule]) != 0) {
                    int number = reckoned(starts[rule], middles[rule]);
                    return Math.max(0, Math.min(bound, number));
                }
            }
            return 0;
        }

        /** What these steps leave; 0 where they are REFUSED, which is false for a C, too. */
        private int reckoned(int from, int to) {
            int top = 0;
            int at = from;
            for (int k = 0; k < LAW_BYTES && at >= 0 && at < to && at < LAW_BYTES; k++) {
                int step = steps[at];
                int detail = details[at];
                at++;
                if (step == NUMBER || step == LETTER) {
                    if (top >= STACK) {
                        return 0;
                    }
                    stack[top] = step == NUMBER ? detail : letters[detail & (LETTERS - 1)];
                    top++;
                } else if (step == '!' || step == '&' || step == '|') {
                    if (top < 1) {
                        return 0;
                    }
                    if (step == '!') {
                        stack[top - 1] = 1 - stack[top - 1];
                    } else if ((stack[top - 1] != 0) == (step == '|')) {
                        at = detail;
                    } else {
                        top--;
                    }
                } else {
                    boolean divides = step == '/' || step == '%';
                    if (top < 2 || (divides && stack[top - 1] == 0)) {
                        return 0;
                    }
                    top--;
                    stack[top - 1] = joined(step, stack[top - 1], stack[top]);
                }
            }
            return top == 1 ? stack[0] : 0;
        }

        private static int joined(int step, int left, int right) {
            switch (step) {
                case '+':
                    return left + right;
                case '-':
                    return left - right;
                case '*':
                    return left * right;
                case '/':
                    return right == 0 ? 0 : left / right;
                case '%':
                    return right == 0 ? 0 : left % right;
                case '<':
                    return left < right ? 1 : 0;
                case '>':
                    return left > right ? 1 : 0;
                default:
                    return left == right ? 1 : 0;
            }
        }
    }

    /** Reads THE LAW into a draft, so that a FAULT leaves the one before as it is. */
    private static final class LawReader {
        private static final String LETTERS = "hcnowgty";

        private final Tape text;
        private final Law draft;

        LawReader(Tape text, Law draft) {
            this.text = text;
            this.draft = draft;
        }

        /** How many RULES, or the FAULT. */
        int read() {
            draft.size = 0;
            draft.rules = 0;
            for (int rule = 0; rule <= MOST_RULES; rule++) {
                int fault = readRule(rule);
                if (fault != 0) {
                    return fault;
                }
                if (text.ended()) {
                    return draft.rules;
                }
                if (text.next() != ';') {
                    return text.fault(WRONG_BYTE);
                }
                text.step();
            }
            return text.fault(ONE_MORE);
        }

        private int readRule(int rule) {
            int kind = text.next();
            if (kind != 'e' && kind != 'i' && kind != 'r' && kind != 's') {
                return text.fault(WRONG_BYTE);
            }
            if (rule >= MOST_RULES) {
                return text.fault(ONE_MORE);
            }
            text.step();
            draft.kinds[rule] = kind;
            draft.starts[rule] = draft.size;
            int fault = kind == 's' ? 0 : readNumber(0);
            if (fault != 0) {
                return fault;
            }
            if (text.next() != '(') {
                return text.fault(WRONG_BYTE);
            }
            text.step();
            draft.middles[rule] = draft.size;
            fault = readCondition(1);
            if (fault == 0) {
                draft.ends[rule] = draft.size;
                draft.rules = rule + 1;
            }
            return fault;
        }

        /** Reads a C and the ) behind it. */
        private int readCondition(int open) {
            int lastAnd = NONE;
            int lastOr = NONE;
            for (int k = 0; k < LAW_BYTES; k++) {
                int fault = readTest(open);
                if (fault != 0) {
                    return fault;
                }
                int sign = text.next();
                if (sign != '&' && sign != '|' && sign != ')') {
                    return text.fault(WRONG_BYTE);
                }
                text.step();
                // each jump goes to the next of its kind, which goes on by the same answer
                draft.landHere(lastAnd);
                lastAnd = NONE;
                if (sign == '&') {
                    lastAnd = draft.put('&', draft.size);
                } else {
                    draft.landHere(lastOr);
                    if (sign == ')') {
                        return 0;
                    }
                    lastOr = draft.put('|', draft.size);
                }
            }
            return text.fault(WRONG_BYTE);
        }

        private int readTest(int open) {
            int nots = 0;
            for (int k = 0; k < LAW_BYTES && text.next() == '!'; k++) {
                if (open + nots >= MOST_OPEN) {
                    return text.fault(TOO_DEEP);
                }
                nots++;
                text.step();
            }
            int fault = readPlainTest(open + nots);
            for (int k = 0; k < nots; k++) {
                draft.put('!', 0);
            }
            return fault;
        }

        private int readPlainTest(int open) {
            if (text.next() == '(') {
                if (open >= MOST_OPEN) {
                    return text.fault(TOO_DEEP);
                }
                text.step();
                return readCondition(open + 1);
            }
            int fault = readNumber(open);
            if (fault != 0) {
                return fault;
            }
            int sign = text.next();
            if (sign != '<' && sign != '>' && sign != '=') {
                return text.fault(WRONG_BYTE);
            }
            text.step();
            fault = readNumber(open);
            draft.put(sign, 0);
            return fault;
        }

        /** Reads an E; a * / or % that waits is put at once behind its FACTOR, a + or - behind its TERM. */
        private int readNumber(int open) {
            int waitingFactor = END;
            int waitingTerm = END;
            for (int k = 0; k < LAW_BYTES; k++) {
                int fault = readFactor(open);
                if (fault != 0) {
                    return fault;
                }
                if (waitingFactor != END) {
                    draft.put(waitingFactor, 0);
                    waitingFactor = END;
                }
                int sign = text.next();
                if (sign == '*' || sign == '/' || sign == '%') {
                    waitingFactor = sign;
                } else {
                    if (waitingTerm != END) {
                        draft.put(waitingTerm, 0);
                    }
                    if (sign != '+' && sign != '-') {
                        return 0;
                    }
                    waitingTerm = sign;
                }
                text.step();
            }
            return text.fault(WRONG_BYTE);
        }

        private int readFactor(int open) {
            int first = text.next();
            if (first == '[') {
                if (open >= MOST_OPEN) {
                    return text.fault(TOO_DEEP);
                }
                text.step();
                int fault = readNumber(open + 1);
                if (fault != 0) {
                    return fault;
                }
                if (text.next() != ']') {
                    return text.fault(WRONG_BYTE);
                }
                text.step();
                return 0;
            }
            if (text.nextIsDigit()) {
                return readDigits();
            }
            int letter = first == END ? END : LETTERS.indexOf((char) first);
            if (letter < 0) {
                return text.fault(WRONG_BYTE);
            }
            draft.put(Law.LETTER, letter);
            text.step();
            return 0;
        }

        private int readDigits() {
            int number = 0;
            for (int k = 0; k < MOST_DIGITS && text.nextIsDigit(); k++) {
                number = number * 10 + text.next() - '0';
                text.step();
            }
            if (text.nextIsDigit()) {
                return text.fault(SIXTH_DIGIT);
            }
            draft.put(Law.NUMBER, number);
            return 0;
        }
    }

    /** Reads DEBTS into a draft, so that a FAULT leaves those before as they are. */
    private static final class DebtsReader {
        private final Tape text;
        private final People people;
        private final int[] draft = new int[PAIRS];

        DebtsReader(Tape text, People people) {
            this.text = text;
            this.people = people;
        }

        /** 0, or the FAULT. */
        int read() {
            Arrays.fill(draft, 0);
            for (int line = 0; line <= MOST_LINES; line++) {
                int fault = readLine(line);
                if (fault != 0 || text.ended()) {
                    return fault;
                }
                if (text.next() != ';') {
                    return text.fault(WRONG_BYTE);
                }
                text.step();
            }
            return text.fault(ONE_MORE);
        }

        private int readLine(int line) {
            int payer = text.nextOne();
            if (payer < 0) {
                return text.fault(WRONG_BYTE);
            }
            if (line >= MOST_LINES) {
                return text.fault(ONE_MORE);
            }
            if (!people.has(payer)) {
                return text.fault(NOT_TOLD);
            }
            text.step();
            if (text.next() != '>') {
                return text.fault(WRONG_BYTE);
            }
            text.step();
            int payee = text.nextOne();
            if (payee < 0) {
                return text.fault(WRONG_BYTE);
            }
            if (!people.has(payee)) {
                return text.fault(NOT_TOLD);
            }
            if (payee == payer) {
                return text.fault(TO_ITSELF);
            }
            text.step();
            return readMany(payer * PEOPLE + payee);
        }

        private int readMany(int pair) {
            int start = text.place();
            int many = text.nextIsDigit() ? 0 : 1;
            for (int k = 0; k < 2 && text.nextIsDigit(); k++) {
                many = many * 10 + text.next() - '0';
                text.step();
            }
            if (many == 0) {
                return text.faultAt(NUMBER_ZERO, start);
            }
            draft[pair] = Math.min(MOST_OWED, draft[pair] + many);
            return 0;
        }
    }

    /** Reads a ROUTE into a row of who is paid, and walks it. */
    private static final class RouteReader {
        private final Tape text;
        private final int[] row = new int[MOST_PAYINGS];
        private int length;

        RouteReader(Tape text) {
            this.text = text;
        }

        /** 0, or the FAULT. */
        int read() {
            length = 0;
            return readPayings(0);
        }

        private int readPayings(int open) {
            for (int k = 0; k < ROUTE_BYTES; k++) {
                int fault = readPaying(open);
                if (fault != 0) {
                    return fault;
                }
                if (open == 0 ? text.ended() : text.next() == ')') {
                    return 0;
                }
            }
            return text.fault(WRONG_BYTE);
        }

        private int readPaying(int open) {
            int start = text.place();
            int before = length;
            int times = 1;
            if (text.next() >= '2' && text.next() <= '9') {
                times = text.next() - '0';
                text.step();
            }
            if (text.next() == '(') {
                if (open >= MOST_NESTED) {
                    return text.fault(TOO_DEEP);
                }
                text.step();
                int fault = readPayings(open + 1);
                if (fault != 0) {
                    return fault;
                }
            } else if (text.nextOne() < 0) {
                return text.fault(WRONG_BYTE);
            } else if (length >= MOST_PAYINGS) {
                return text.faultAt(TOO_LONG, start);
            } else {
                row[length] = text.nextOne();
                length++;
            }
            text.step();
            return repeat(before, times) ? 0 : text.faultAt(TOO_LONG, start);
        }

        /** Sets what the row got from this place on so many times in all; false: that is too long. */
        private boolean repeat(int from, int times) {
            int part = length - from;
            int longer = from + part * times;
            if (longer > MOST_PAYINGS || part < 0) {
                return false;
            }
            for (int k = length; k < longer; k++) {
                row[k] = row[k - part];
            }
            length = longer;
            return true;
        }

        /** Walks the row as far as it can be: how many PAYINGS. */
        int walkedBy(Duchy duchy) {
            for (int k = 0; k < length && k < MOST_PAYINGS; k++) {
                // nobody owes one who is not told, or oneself
                if (duchy.debtOf(duchy.holder, row[k]) == 0) {
                    return k;
                }
                duchy.pay(duchy.holder, row[k]);
            }
            return length;
        }
    }

    /** Lets HOURS go by, and tells what came of them. */
    private static final class Clock {
        private final People people;
        private final Law law;
        private int payings;
        private int rainyDays;
        private int interest;
        private int arrivedAt = NONE;

        Clock(People people, Law law) {
            this.people = people;
            this.law = law;
        }

        void pass(Duchy duchy, int hours) {
            payings = 0;
            rainyDays = 0;
            interest = 0;
            for (int k = 0; k < hours; k++) {
                tick(duchy);
            }
        }

        void tick(Duchy duchy) {
            arrivedAt = NONE;
            if (duchy.day >= LAST_DAY && duchy.hour >= LAST_HOUR) {
                return;
            }
            if (duchy.hour == 0) {
                beginDay(duchy);
            }
            if (duchy.left > 0) {
                travel(duchy);
            } else if (isOne(duchy.holder)) {
                duchy.held[duchy.holder]++;
                setOut(duchy);
            }
            duchy.hour++;
            if (duchy.hour > LAST_HOUR) {
                duchy.hour = 0;
                duchy.day++;
            }
        }

        private void beginDay(Duchy duchy) {
            duchy.rainy = duchy.draw() < law.rain(duchy.day);
            if (duchy.rainy) {
                rainyDays++;
            }
            for (int pair = 0; pair < PAIRS; pair++) {
                int coins = duchy.debts[pair];
                if (coins > 0) {
                    int grown = coins + law.growth(duchy, pair / PEOPLE, pair % PEOPLE);
                    duchy.debts[pair] = Math.min(MOST_OWED, grown);
                    interest += duchy.debts[pair] - coins;
                }
            }
        }

        private void travel(Duchy duchy) {
            duchy.left--;
            if (duchy.left == 0) {
                arrivedAt = duchy.payee;
                duchy.pay(duchy.payer, duchy.payee);
                payings++;
            }
        }

        private void setOut(Duchy duchy) {
            if (duchy.rainy || duchy.hour < FIRST_PAYING_HOUR || duchy.hour > LAST_PAYING_HOUR) {
                return;
            }
            int from = duchy.holder;
            int best = NONE;
            int most = 0;
            for (int to = 0; to < PEOPLE; to++) {
                int liking = duchy.debtOf(from, to) > 0 ? law.liking(duchy, from, to) : 0;
                if (liking > most) {
                    most = liking;
                    best = to;
                }
            }
            if (best >= 0) {
                duchy.sendTo(best, people.way(from, best));
            }
        }
    }

    /** What rows of PAYINGS there are by DEBTS, each coin of them paid once. */
    private static final class Rows {
        private final People people;
        private final int[] left = new int[PAIRS];
        private final int[] right = new int[PAIRS];
        private final int[] pairs = new int[SHARED_DEBTS];
        private final int[] far = new int[PEOPLE];
        private final int[] row = new int[MOST_PAYINGS];
        private final int[] best = new int[ROW_DEBTS];
        private int bestLength;

        Rows(People people) {
            this.people = people;
        }

        /** To whom (bits) one comes by DEBTS, oneself as well. */
        static int reachedFrom(int[] debts, int from) {
            int reached = 1 << from;
            int done = 0;
            for (int k = 0; k < PEOPLE && done != reached; k++) {
                int fresh = reached & ~done;
                done = reached;
                for (int p = 0; p < PEOPLE; p++) {
                    if ((fresh >> p & 1) == 1) {
                        reached |= paidBy(debts, p);
                    }
                }
            }
            return reached;
        }

        private static int paidBy(int[] debts, int p) {
            int paid = 0;
            for (int q = 0; q < PEOPLE; q++) {
                if (debts[p * PEOPLE + q] > 0) {
                    paid |= 1 << q;
                }
            }
            return paid;
        }

        static int ringOf(int[] debts, int p) {
            int ring = 0;
            int there = reachedFrom(debts, p);
            for (int q = 0; q < PEOPLE; q++) {
                if ((there >> q & 1) == 1 && (reachedFrom(debts, q) >> p & 1) == 1) {
                    ring |= 1 << q;
                }
            }
            return ring;
        }

        /** Whether all DEBTS can be paid in one row from one (Euler's rule for such rows). */
        static boolean isOneRow(int[] debts, int from) {
            int payers = 0;
            for (int p = 0; p < PEOPLE; p++) {
                int pays = 0;
                int gets = 0;
                for (int q = 0; q < PEOPLE; q++) {
                    pays += debts[p * PEOPLE + q];
                    gets += debts[q * PEOPLE + p];
                }
                // where nobody else pays more than one gets, nobody but the last can get more than one pays
                if (pays > gets + (p == from ? 1 : 0)) {
                    return false;
                }
                payers |= pays > 0 ? 1 << p : 0;
            }
            return (payers & ~reachedFrom(debts, from)) == 0;
        }

        /** The least row of all DEBTS, which must be one row. */
        void planTour(int[] debts, int from, int many) {
            System.arraycopy(debts, 0, left, 0, PAIRS);
            int at = from;
            for (int k = 0; k < many && k < MOST_PAYINGS; k++) {
                int next = leastNext(at);
                if (next < 0) {
                    return;
                }
                row[k] = next;
                at = next;
            }
        }

        /** Pays the lowest one from whom all that is left can still be paid. */
        private int leastNext(int at) {
            for (int q = 0; q < PEOPLE; q++) {
                int pair = at * PEOPLE + q;
                if (left[pair] > 0) {
                    left[pair]--;
                    if (isOneRow(left, q)) {
                        return q;
                    }
                    left[pair]++;
                }
            }
            return NONE;
        }

        int planMost(int[] debts, int from) {
            System.arraycopy(debts, 0, left, 0, PAIRS);
            bestLength = 0;
            lengthen(this, from, 0);
            return bestLength;
        }

        private static void lengthen(Rows rows, int at, int length) {
            // rows come the least first, so that only a longer one takes the place
            if (length > rows.bestLength) {
                rows.bestLength = length;
                System.arraycopy(rows.row, 0, rows.best, 0, length);
            }
            if (length >= ROW_DEBTS) {
                return;
            }
            for (int q = 0; q < PEOPLE; q++) {
                int pair = at * PEOPLE + q;
                if (rows.left[pair] > 0) {
                    rows.left[pair]--;
                    rows.row[length] = q;
                    lengthen(rows, q, length + 1);
                    rows.left[pair]++;
                }
            }
        }

        /** The shortest row from one back to that one, in PAYINGS or in HOURS; FAR: none. */
        int wayBack(int[] debts, int home, boolean inHours) {
            Arrays.fill(far, FAR);
            for (int k = 0; k < PEOPLE; k++) {
                for (int pair = 0; pair < PAIRS; pair++) {
                    int from = pair / PEOPLE;
                    int to = pair % PEOPLE;
                    if (debts[pair] > 0) {
                        int before = from == home ? 0 : far[from];
                        far[to] = Math.min(far[to], before + (inHours ? people.way(from, to) : 1));
                    }
                }
            }
            return far[home];
        }

        /** The fewest HOURS in which two coins pay all DEBTS, one from the holder, one from another; FAR: they can't. */
        int sharedHours(Duchy duchy, int other) {
            int many = duchy.listCoins(pairs);
            int fewest = FAR;
            for (int share = 0; share < 1 << many; share++) {
                int hours = Math.max(hoursOf(share, many), hoursOf(~share, many));
                if (hours < fewest) {
                    setShare(left, share, many);
                    setShare(right, ~share, many);
                    if (isOneRow(left, duchy.holder) && isOneRow(right, other)) {
                        fewest = hours;
                    }
                }
            }
            return fewest;
        }

        private int hoursOf(int share, int many) {
            int hours = 0;
            for (int k = 0; k < many && k < SHARED_DEBTS; k++) {
                if ((share >> k & 1) == 1) {
                    hours += people.way(pairs[k] / PEOPLE, pairs[k] % PEOPLE);
                }
            }
            return hours;
        }

        private void setShare(int[] debts, int share, int many) {
            Arrays.fill(debts, 0);
            for (int k = 0; k < many && k < SHARED_DEBTS; k++) {
                if ((share >> k & 1) == 1) {
                    debts[pairs[k]]++;
                }
            }
        }
    }

    /** What would bring all out even. */
    private static final class Balance {
        private final People people;
        private final int[] more = new int[PEOPLE];
        private final int[] rest = new int[PEOPLE];
        private final int[] debtors = new int[NEW_DEBTS];
        private final int[] row = new int[NEW_DEBTS];
        private final int[] best = new int[NEW_DEBTS];
        private final int[] pairs = new int[ROW_DEBTS];
        private final int[] groups = new int[ALL_GROUPS];
        private int bestHours;

        Balance(People people) {
            this.people = people;
        }

        private void weigh(Duchy duchy) {
            for (int p = 0; p < PEOPLE; p++) {
                more[p] = duchy.owedTo(p) - duchy.owedBy(p);
            }
        }

        int newDebts(Duchy duchy) {
            weigh(duchy);
            int many = 0;
            for (int p = 0; p < PEOPLE; p++) {
                many += Math.max(0, more[p]);
            }
            return many;
        }

        /** The best row of new DEBTS, of which newDebts has just told how many. */
        void planNewDebts(int many) {
            int k = 0;
            for (int p = 0; p < PEOPLE; p++) {
                for (int coin = 0; coin < more[p] && k < NEW_DEBTS; coin++) {
                    debtors[k] = p;
                    k++;
                }
            }
            bestHours = FAR;
            assign(this, 0, Math.min(many, k), 0);
        }

        private static void assign(Balance plan, int k, int many, int hours) {
            // rows come the least first, so that only a shorter one takes the place
            if (hours >= plan.bestHours) {
                return;
            }
            if (k >= many || k >= NEW_DEBTS) {
                plan.bestHours = hours;
                System.arraycopy(plan.row, 0, plan.best, 0, NEW_DEBTS);
                return;
            }
            for (int q = 0; q < PEOPLE; q++) {
                if (plan.more[q] < 0) {
                    plan.more[q]++;
                    plan.row[k] = q;
                    assign(plan, k + 1, many, hours + plan.people.way(plan.debtors[k], q));
                    plan.more[q]--;
                }
            }
        }

        /** The fewest and least bits of DEBTS to turn round; NONE: it can't be. */
        int leastTurned(Duchy duchy) {
            weigh(duchy);
            int many = duchy.listCoins(pairs);
            int bestBits = NONE;
            int fewest = ROW_DEBTS + 1;
            for (int bits = 0; bits < 1 << many; bits++) {
                if (Integer.bitCount(bits) < fewest && isEvenTurned(bits, many)) {
                    fewest = Integer.bitCount(bits);
                    bestBits = bits;
                }
            }
            return bestBits;
        }

        private boolean isEvenTurned(int bits, int many) {
            System.arraycopy(more, 0, rest, 0, PEOPLE);
            for (int k = 0; k < many && k < ROW_DEBTS; k++) {
                if ((bits >> k & 1) == 1) {
                    rest[pairs[k] / PEOPLE] += 2;
                    rest[pairs[k] % PEOPLE] -= 2;
                }
            }
            for (int p = 0; p < PEOPLE; p++) {
                if (rest[p] != 0) {
                    return false;
                }
            }
            return true;
        }

        /** Those who come out even among themselves save a paying: as many such groups as can be. */
        int fewestPayings(Duchy duchy) {
            weigh(duchy);
            for (int group = 1; group < ALL_GROUPS; group++) {
                int sum = 0;
                int most = 0;
                for (int p = 0; p < PEOPLE; p++) {
                    if ((group >> p & 1) == 1) {
                        sum += more[p];
                        most = Math.max(most, groups[group & ~(1 << p)]);
                    }
                }
                groups[group] = sum == 0 ? most + 1 : most;
            }
            return PEOPLE - groups[ALL_GROUPS - 1];
        }
    }
}
