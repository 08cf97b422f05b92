import java.util.ArrayList;
import java.util.Arrays;
import java.util.HashSet;
import java.util.List;
import java.util.Set;
import java.util.TreeMap;

/** The document in its plainest form, written apart from OneCoin: by splitting texts and by trying out everything. */
final class Model {
    /** A FAULT of a text. */
    private static final class Fault extends RuntimeException {
        private static final long serialVersionUID = 1L;
        final int answer;

        Fault(int number, int place) {
            answer = -1000 * number - place;
        }
    }

    /** What is divided by 0. */
    private static final class Refused extends RuntimeException {
        private static final long serialVersionUID = 1L;
    }

    private static final class State {
        int[][] debts = new int[10][10];
        int[] held = new int[10];
        List<Integer> chalk = new ArrayList<>();
        int at = -2;
        int from = -2;
        int to = -2;
        int still;
        int hour;
        int day;
        int rainy;
        int x = 1;
        int payings;
        int rainyDays;
        int interest;
        int arrived = -2;

        State copy() {
            State s = new State();
            for (int a = 0; a < 10; a++) {
                s.debts[a] = debts[a].clone();
            }
            s.held = held.clone();
            s.chalk = new ArrayList<>(chalk);
            s.at = at;
            s.from = from;
            s.to = to;
            s.still = still;
            s.hour = hour;
            s.day = day;
            s.rainy = rainy;
            s.x = x;
            return s;
        }
    }

    private List<Integer> tape = new ArrayList<>();
    private final TreeMap<Integer, int[]> people = new TreeMap<>();
    private State now = new State();
    private State kept;
    private String[] law = new String[0];

    // ---- the tape

    int feed(int a, int b, int c, int d, int e) {
        if (tape.size() > 240) {
            return -1;
        }
        for (int word : new int[] {a, b, c, d, e}) {
            tape.add(word >> 24 & 255);
            tape.add(word >> 16 & 255);
            tape.add(word >> 8 & 255);
            tape.add(word & 255);
        }
        return tape.size();
    }

    private String take(int n) {
        StringBuilder text = new StringBuilder();
        for (int b : tape.subList(0, n)) {
            text.append((char) b);
        }
        tape = new ArrayList<>();
        return text.toString();
    }

    private static char at(String text, int place) {
        return place < text.length() ? text.charAt(place) : '\n';
    }

    private static boolean among(char c, String signs) {
        return c != '\n' && signs.indexOf(c) >= 0;
    }

    // ---- people, debts, coin

    boolean person(int p, int x, int y) {
        if (p < 0 || p > 9 || x < 0 || x > 9 || y < 0 || y > 9) {
            return false;
        }
        people.put(p, new int[] {x, y});
        return true;
    }

    private boolean told(int... ones) {
        Set<Integer> all = new HashSet<>();
        for (int p : ones) {
            if (!people.containsKey(p) || !all.add(p)) {
                return false;
            }
        }
        return true;
    }

    private int way(int a, int b) {
        int[] s = people.getOrDefault(a, new int[2]);
        int[] t = people.getOrDefault(b, new int[2]);
        int far = Math.abs(s[0] - t[0]) + Math.abs(s[1] - t[1]);
        return far == 0 ? 1 : far;
    }

    boolean debt(int a, int b, int n) {
        if (!told(a, b) || n < 0 || n > 99) {
            return false;
        }
        now.debts[a][b] = n;
        return true;
    }

    boolean coin(int p) {
        if (!told(p)) {
            return false;
        }
        now.at = p;
        now.still = 0;
        return true;
    }

    private static int sum(int[][] debts) {
        return Arrays.stream(debts).mapToInt(row -> Arrays.stream(row).sum()).sum();
    }

    private static int pays(int[][] debts, int p) {
        return Arrays.stream(debts[p]).sum();
    }

    private static int gets(int[][] debts, int p) {
        return Arrays.stream(debts).mapToInt(row -> row[p]).sum();
    }

    int debts(int n) {
        if (n < 1 || n > 160 || n > tape.size()) {
            return -1;
        }
        try {
            now.debts = readDebts(take(n));
            return sum(now.debts);
        } catch (Fault f) {
            return f.answer;
        }
    }

    private int[][] readDebts(String text) {
        int[][] debts = new int[10][10];
        int place = 0;
        String[] lines = text.split(";", -1);
        for (int k = 0; k < lines.length; k++) {
            String line = lines[k];
            if (!among(at(line, 0), "abcdefghij")) {
                throw new Fault(1, place);
            }
            if (k == 30) {
                throw new Fault(4, place);
            }
            int a = line.charAt(0) - 'a';
            if (!told(a)) {
                throw new Fault(7, place);
            }
            if (at(line, 1) != '>') {
                throw new Fault(1, place + 1);
            }
            if (!among(at(line, 2), "abcdefghij")) {
                throw new Fault(1, place + 2);
            }
            int b = line.charAt(2) - 'a';
            if (!told(b)) {
                throw new Fault(7, place + 2);
            }
            if (a == b) {
                throw new Fault(6, place + 2);
            }
            String number = line.substring(3);
            int digits = 0;
            while (digits < 2 && among(at(number, digits), "0123456789")) {
                digits++;
            }
            int many = digits == 0 ? 1 : Integer.parseInt(number.substring(0, digits));
            if (many == 0) {
                throw new Fault(3, place + 3);
            }
            if (digits < number.length()) {
                throw new Fault(1, place + 3 + digits);
            }
            debts[a][b] = Math.min(99, debts[a][b] + many);
            place += line.length() + 1;
        }
        return debts;
    }

    // ---- the law: a machine of states finds its FAULTS, splitting reckons it

    int law(int n) {
        if (n < 1 || n > 240 || n > tape.size()) {
            return -1;
        }
        String text = take(n);
        try {
            findFault(text);
        } catch (Fault f) {
            return f.answer;
        }
        law = text.split(";");
        return law.length;
    }

    private enum Due { RULE, NUMBER, BEHIND_NUMBER, OPENING, TEST, BEHIND_GROUP, BEHIND_RULE }

    private static void findFault(String text) {
        Due due = Due.RULE;
        StringBuilder open = new StringBuilder();
        boolean rightSide = false;
        int digits = 0;
        int rules = 0;
        for (int place = 0; place <= text.length(); place++) {
            char c = at(text, place);
            char top = open.length() == 0 ? '\n' : open.charAt(open.length() - 1);
            boolean testEnds = false;
            if (due == Due.RULE) {
                if (!among(c, "eirs")) {
                    throw new Fault(1, place);
                }
                rules++;
                if (rules == 17) {
                    throw new Fault(4, place);
                }
                due = c == 's' ? Due.OPENING : Due.NUMBER;
            } else if (due == Due.OPENING) {
                if (c != '(') {
                    throw new Fault(1, place);
                }
                open.append(c);
                due = Due.TEST;
            } else if (due == Due.BEHIND_RULE) {
                if (place == text.length()) {
                    return;
                }
                if (c != ';') {
                    throw new Fault(1, place);
                }
                due = Due.RULE;
            } else if (due == Due.TEST || due == Due.NUMBER) {
                if (among(c, due == Due.TEST ? "!([" : "[")) {
                    if (open.length() == 6) {
                        throw new Fault(5, place);
                    }
                    open.append(c);
                    rightSide = rightSide && due != Due.TEST;
                    due = c == '[' ? Due.NUMBER : Due.TEST;
                } else if (among(c, "hcnowgty0123456789")) {
                    digits = among(c, "0123456789") ? 1 : 0;
                    rightSide = rightSide && due != Due.TEST;
                    due = Due.BEHIND_NUMBER;
                } else {
                    throw new Fault(1, place);
                }
            } else if (due == Due.BEHIND_NUMBER) {
                if (digits > 0 && among(c, "0123456789")) {
                    digits++;
                    if (digits == 6) {
                        throw new Fault(2, place);
                    }
                } else if (among(c, "+-*/%")) {
                    due = Due.NUMBER;
                } else if (top == '[' && c == ']') {
                    open.setLength(open.length() - 1);
                    digits = 0;
                } else if (top == '\n' && c == '(') {
                    open.append(c);
                    due = Due.TEST;
                } else if ((top == '(' || top == '!') && !rightSide && among(c, "<>=")) {
                    rightSide = true;
                    due = Due.NUMBER;
                } else if ((top == '(' || top == '!') && rightSide) {
                    testEnds = true;
                } else {
                    throw new Fault(1, place);
                }
            } else {
                testEnds = true;
            }
            if (testEnds) {
                while (open.charAt(open.length() - 1) == '!') {
                    open.setLength(open.length() - 1);
                }
                if (among(c, "&|")) {
                    due = Due.TEST;
                } else if (c == ')') {
                    open.setLength(open.length() - 1);
                    due = open.length() == 0 ? Due.BEHIND_RULE : Due.BEHIND_GROUP;
                } else {
                    throw new Fault(1, place);
                }
            }
        }
        throw new IllegalStateException("no end: " + text);
    }

    /** The places of signs that stand outside all ( and [. */
    private static List<Integer> outside(String text, String signs) {
        List<Integer> places = new ArrayList<>();
        int open = 0;
        for (int k = 0; k < text.length(); k++) {
            char c = text.charAt(k);
            if (c == ')' || c == ']') {
                open--;
            }
            if (open == 0 && signs.indexOf(c) >= 0) {
                places.add(k);
            }
            if (c == '(' || c == '[') {
                open++;
            }
        }
        return places;
    }

    private static List<String> split(String text, String sign) {
        List<String> parts = new ArrayList<>();
        int start = 0;
        for (int place : outside(text, sign)) {
            parts.add(text.substring(start, place));
            start = place + 1;
        }
        parts.add(text.substring(start));
        return parts;
    }

    private static boolean isSo(String c, int[] letters) {
        for (String part : split(c, "|")) {
            boolean all = true;
            for (String test : split(part, "&")) {
                if (!testIsSo(test, letters)) {
                    all = false;
                    break;
                }
            }
            if (all) {
                return true;
            }
        }
        return false;
    }

    private static boolean testIsSo(String test, int[] letters) {
        if (test.startsWith("!")) {
            return !testIsSo(test.substring(1), letters);
        }
        if (test.startsWith("(")) {
            return isSo(test.substring(1, test.length() - 1), letters);
        }
        int place = outside(test, "<>=").get(0);
        int left = number(test.substring(0, place), letters);
        int right = number(test.substring(place + 1), letters);
        char sign = test.charAt(place);
        return sign == '<' ? left < right : sign == '>' ? left > right : left == right;
    }

    private static int number(String e, int[] letters) {
        for (String signs : new String[] {"+-", "*/%"}) {
            List<Integer> places = outside(e, signs);
            if (!places.isEmpty()) {
                int place = places.get(places.size() - 1);
                int left = number(e.substring(0, place), letters);
                int right = number(e.substring(place + 1), letters);
                switch (e.charAt(place)) {
                    case '+': return left + right;
                    case '-': return left - right;
                    case '*': return left * right;
                    default:
                        if (right == 0) {
                            throw new Refused();
                        }
                        return e.charAt(place) == '/' ? left / right : left % right;
                }
            }
        }
        if (e.startsWith("[")) {
            return number(e.substring(1, e.length() - 1), letters);
        }
        int letter = "hcnowgty".indexOf(e.charAt(0));
        return letter >= 0 ? letters[letter] : Integer.parseInt(e);
    }

    private static boolean ruleHolds(String rule, int[] letters) {
        try {
            return isSo(rule.substring(rule.indexOf('(') + 1, rule.length() - 1), letters);
        } catch (Refused r) {
            return false;
        }
    }

    private int first(char kind, int bound, int[] letters) {
        for (String rule : law) {
            if (rule.charAt(0) == kind && ruleHolds(rule, letters)) {
                try {
                    int e = number(rule.substring(1, rule.indexOf('(')), letters);
                    return e < 0 ? 0 : e > bound ? bound : e;
                } catch (Refused r) {
                    return 0;
                }
            }
        }
        return 0;
    }

    private int[] letters(State s, int h, int c) {
        int g = 0;
        for (int p : s.chalk) {
            g += p == c ? 1 : 0;
        }
        return new int[] {h, c, s.debts[h][c], pays(s.debts, h), way(h, c), g, s.hour, s.day};
    }

    private int liking(State s, int h, int c) {
        int[] letters = letters(s, h, c);
        for (String rule : law) {
            if (rule.charAt(0) == 's' && ruleHolds(rule, letters)) {
                return 0;
            }
        }
        return first('e', 9999, letters);
    }

    private int rain(int day) {
        return first('r', 10, new int[] {0, 0, 0, 0, 0, 0, 0, day});
    }

    // ---- hours

    private void paid(State s, int from, int to) {
        s.debts[from][to] = Math.max(0, s.debts[from][to] - 1);
        s.at = to;
        s.chalk.add(to);
        if (s.chalk.size() > 40) {
            s.chalk.remove(0);
        }
    }

    private void hour(State s) {
        s.arrived = -2;
        if (s.hour == 0) {
            s.x = (int) ((25173L * s.x + 13849L) % 65536L);
            s.rainy = s.x % 10 < rain(s.day) ? 1 : 0;
            s.rainyDays += s.rainy;
            for (int a = 0; a < 10; a++) {
                for (int b = 0; b < 10; b++) {
                    if (s.debts[a][b] > 0) {
                        int more = Math.min(99 - s.debts[a][b], first('i', 9, letters(s, a, b)));
                        s.debts[a][b] += more;
                        s.interest += more;
                    }
                }
            }
        }
        if (s.at == -2 && s.still > 0) {
            s.still--;
            if (s.still == 0) {
                paid(s, s.from, s.to);
                s.arrived = s.to;
                s.payings++;
            }
        } else if (s.at != -2) {
            s.held[s.at]++;
            int best = -1;
            for (int b = 9; b >= 0; b--) {
                if (s.debts[s.at][b] > 0 && liking(s, s.at, b) > 0
                    && (best < 0 || liking(s, s.at, b) >= liking(s, s.at, best))) {
                    best = b;
                }
            }
            if (best >= 0 && s.rainy == 0 && s.hour >= 6 && s.hour <= 19) {
                s.from = s.at;
                s.to = best;
                s.still = way(s.at, best);
                s.at = -2;
            }
        }
        s.hour++;
        if (s.hour == 24) {
            s.hour = 0;
            s.day++;
        }
    }

    int hours(int n) {
        if (n < 1 || n > 240) {
            return -1;
        }
        now.payings = 0;
        for (int k = 0; k < n; k++) {
            hour(now);
        }
        return now.payings;
    }

    int tried(int n, int what) {
        boolean known = what >= 0 && what <= 5 || what >= 10 && told(what - 10);
        if (n < 1 || n > 240 || !known) {
            return -1;
        }
        State s = now.copy();
        for (int k = 0; k < n; k++) {
            hour(s);
        }
        int[] answers = {s.payings, sum(s.debts), s.at, s.rainyDays, s.interest, s.hour};
        return what < 6 ? answers[what] : s.held[what - 10] - now.held[what - 10];
    }

    int when(int p, int n) {
        if (!told(p) || n < 1 || n > 240) {
            return -1;
        }
        State s = now.copy();
        for (int k = 0; k <= n; k++) {
            if (k == 0 ? s.at == p : s.arrived == p) {
                return k;
            }
            hour(s);
        }
        return -2;
    }

    int wedding(int p, int q, int n) {
        if (!told(p, q) || n < 1 || n > 240) {
            return -1;
        }
        State s = now.copy();
        TreeMap<Integer, Set<Integer>> days = new TreeMap<>();
        for (int k = 0; k < n; k++) {
            int day = s.day;
            hour(s);
            days.computeIfAbsent(day, d -> new HashSet<>()).add(s.arrived);
        }
        for (int day : days.keySet()) {
            if (days.get(day).contains(p) && days.get(day).contains(q)) {
                return day;
            }
        }
        return -2;
    }

    // ---- what is told of the state

    int personIs(int p, int what) {
        if (!told(p) || what < 0 || what > 5) {
            return -1;
        }
        int[] answers = {people.get(p)[0], people.get(p)[1], pays(now.debts, p), gets(now.debts, p), now.held[p],
            letters(now, 0, p)[5]};
        return answers[what];
    }

    int owes(int a, int b) {
        return told(a, b) ? now.debts[a][b] : -1;
    }

    int likes(int a, int b) {
        return told(a, b) ? liking(now, a, b) : -1;
    }

    int longest() {
        int best = -2;
        for (int p = 9; p >= 0; p--) {
            if (now.held[p] > 0 && (best == -2 || now.held[p] >= now.held[best])) {
                best = p;
            }
        }
        return best;
    }

    int chalk(int k) {
        return k >= 0 && k < now.chalk.size() ? now.chalk.get(k) : -1;
    }

    int setOff(int p) {
        return told(p) ? gets(now.debts, p) - pays(now.debts, p) : -1000000;
    }

    boolean seed(int x) {
        if (x >= 0 && x < 65536) {
            now.x = x;
            return true;
        }
        return false;
    }

    int keep() {
        kept = now.copy();
        return sum(now.debts);
    }

    boolean undo() {
        if (kept == null) {
            return false;
        }
        now = kept.copy();
        return true;
    }

    int check(int n) {
        if (n < 0 || n > 10 || n > tape.size()) {
            return -2;
        }
        String told = take(n);
        for (int p = 0; p < n; p++) {
            int owed = people.containsKey(p) ? pays(now.debts, p) : 0;
            if (told.charAt(p) != (owed > 255 ? 255 : owed)) {
                return p;
            }
        }
        return -1;
    }

    int count(int what) {
        if (what < 0 || what > 11) {
            return -1;
        }
        int bits = 0;
        for (int p : people.keySet()) {
            bits += 1 << p;
        }
        boolean onWay = now.at == -2 && now.still > 0;
        int[] answers = {bits, sum(now.debts), now.at, onWay ? now.to : -2, onWay ? now.still : 0, now.hour, now.day,
            now.rainy, now.chalk.size(), law.length, tape.size(), now.x};
        return answers[what];
    }

    int dry(int n, int what) {
        if (n < 1 || n > 9 || what < 0 || what > 1) {
            return -1;
        }
        long above = 1;
        long below = 1;
        for (int k = 0; k < n; k++) {
            above *= 10 - rain(now.day);
            below *= 10;
        }
        for (long d : new long[] {2, 5}) {
            while (above % d == 0 && below % d == 0) {
                above /= d;
                below /= d;
            }
        }
        if (above == 0) {
            below = 1;
        }
        return (int) (what == 0 ? above : below);
    }

    // ---- routes

    private static List<Integer> readRoute(String text) {
        List<Integer> row = new ArrayList<>();
        List<int[]> open = new ArrayList<>();
        int times = 0;
        int start = 0;
        boolean needsOne = true;
        for (int place = 0; place <= text.length(); place++) {
            char c = at(text, place);
            if (times == 0) {
                start = place;
            }
            if (times == 0 && among(c, "23456789")) {
                times = c - '0';
                needsOne = true;
            } else if (c == '(') {
                if (open.size() == 2) {
                    throw new Fault(5, place);
                }
                open.add(new int[] {start, Math.max(1, times), row.size()});
                times = 0;
                needsOne = true;
            } else if (among(c, "abcdefghij")) {
                for (int k = 0; k < Math.max(1, times); k++) {
                    row.add(c - 'a');
                }
                if (row.size() > 60) {
                    throw new Fault(6, start);
                }
                times = 0;
                needsOne = false;
            } else if (c == ')' && !needsOne && !open.isEmpty()) {
                int[] group = open.remove(open.size() - 1);
                List<Integer> part = new ArrayList<>(row.subList(group[2], row.size()));
                for (int k = 1; k < group[1]; k++) {
                    row.addAll(part);
                }
                if (row.size() > 60) {
                    throw new Fault(6, group[0]);
                }
            } else if (place == text.length() && !needsOne && open.isEmpty()) {
                return row;
            } else {
                throw new Fault(1, place);
            }
        }
        throw new IllegalStateException("no end: " + text);
    }

    int route(int n, int what) {
        if (what < 0 || what > 2) {
            return -1;
        }
        State before = now;
        now = now.copy();
        int[] hours = new int[1];
        int answer = walked(n, hours);
        int holder = now.at;
        now = before;
        return answer < 0 ? answer : what == 0 ? answer : what == 1 ? hours[0] : holder;
    }

    int walk(int n) {
        return walked(n, new int[1]);
    }

    private int walked(int n, int[] hours) {
        if (n < 1 || n > 60 || n > tape.size()) {
            return -1;
        }
        List<Integer> row;
        try {
            row = readRoute(take(n));
        } catch (Fault f) {
            return f.answer;
        }
        if (now.at == -2) {
            return -2;
        }
        int payings = 0;
        for (int p : row) {
            if (now.debts[now.at][p] == 0) {
                break;
            }
            hours[0] += way(now.at, p);
            paid(now, now.at, p);
            payings++;
        }
        return payings;
    }

    // ---- rows, by trying

    private static int[][] less(int[][] debts, int a, int b) {
        int[][] less = new int[10][];
        for (int p = 0; p < 10; p++) {
            less[p] = debts[p].clone();
        }
        less[a][b]--;
        return less;
    }

    /** The least row that pays all; null: there is none. */
    private static List<Integer> all(int[][] debts, int at, Set<String> failed) {
        if (sum(debts) == 0) {
            return new ArrayList<>();
        }
        String key = at + Arrays.deepToString(debts);
        if (failed.contains(key)) {
            return null;
        }
        for (int b = 0; b < 10; b++) {
            if (debts[at][b] > 0) {
                List<Integer> rest = all(less(debts, at, b), b, failed);
                if (rest != null) {
                    rest.add(0, b);
                    return rest;
                }
            }
        }
        failed.add(key);
        return null;
    }

    int tour(int what) {
        if (what < 0 || what > 59 && what < 100 || what > 102) {
            return -1;
        }
        if (now.at == -2) {
            return -2;
        }
        int many = sum(now.debts);
        if (many > 60) {
            return -3;
        }
        if (what == 101) {
            return many;
        }
        List<Integer> row = all(now.debts, now.at, new HashSet<>());
        if (what == 100) {
            return row == null ? 0 : 1;
        }
        if (row == null) {
            return -4;
        }
        if (what == 102) {
            return row.isEmpty() || row.get(row.size() - 1) == now.at ? 1 : 0;
        }
        return what < row.size() ? row.get(what) : -4;
    }

    private static List<Integer> longestRow(int[][] debts, int at) {
        List<Integer> best = new ArrayList<>();
        for (int b = 0; b < 10; b++) {
            if (debts[at][b] > 0) {
                List<Integer> row = longestRow(less(debts, at, b), b);
                row.add(0, b);
                best = row.size() > best.size() ? row : best;
            }
        }
        return best;
    }

    int most(int what) {
        if (what < 0 || what > 11 && what != 100) {
            return -1;
        }
        if (now.at == -2) {
            return -2;
        }
        if (sum(now.debts) > 12) {
            return -3;
        }
        List<Integer> row = longestRow(now.debts, now.at);
        return what == 100 ? row.size() : what < row.size() ? row.get(what) : -4;
    }

    private int home(int at, int goal, int been, boolean hours) {
        int best = 1 << 20;
        for (int b = 0; b < 10; b++) {
            if (now.debts[at][b] > 0 && (been >> b & 1) == 0) {
                int step = hours ? way(at, b) : 1;
                best = Math.min(best, step + (b == goal ? 0 : home(b, goal, been | 1 << b, hours)));
            }
        }
        return best;
    }

    int back(int p, int what) {
        if (!told(p) || what < 0 || what > 1) {
            return -1;
        }
        int far = home(p, p, 0, what == 1);
        return far >= 1 << 20 ? -2 : far;
    }

    private int twoRows(int[][] debts, int at, int other, int hours, boolean second, int firstHours) {
        int best = 1 << 20;
        if (!second) {
            best = twoRows(debts, other, -1, 0, true, hours);
        } else if (sum(debts) == 0) {
            return Math.max(hours, firstHours);
        }
        for (int b = 0; b < 10; b++) {
            if (debts[at][b] > 0) {
                int longer = hours + way(at, b);
                best = Math.min(best, twoRows(less(debts, at, b), b, other, longer, second, firstHours));
            }
        }
        return best;
    }

    int two(int p) {
        if (!told(p)) {
            return -1;
        }
        if (now.at == -2) {
            return -2;
        }
        if (sum(now.debts) > 8) {
            return -3;
        }
        int hours = twoRows(now.debts, now.at, p, 0, false, 0);
        return hours >= 1 << 20 ? -4 : hours;
    }

    // ---- coming out even

    private List<Integer> bestNew;
    private int bestNewHours;

    private void tryNew(List<Integer> owing, List<Integer> owed, List<Integer> row, int hours) {
        if (row.size() == owing.size()) {
            boolean less = false;
            if (hours == bestNewHours) {
                for (int k = 0; k < row.size(); k++) {
                    if (!row.get(k).equals(bestNew.get(k))) {
                        less = row.get(k) < bestNew.get(k);
                        break;
                    }
                }
            }
            if (hours < bestNewHours || less) {
                bestNewHours = hours;
                bestNew = new ArrayList<>(row);
            }
            return;
        }
        for (int k = owed.size() - 1; k >= 0; k--) {
            int b = owed.remove(k);
            row.add(b);
            tryNew(owing, owed, row, hours + way(owing.get(row.size() - 1), b));
            row.remove(row.size() - 1);
            owed.add(k, b);
        }
    }

    int even(int what) {
        if (what < 0 || what > 5 && what != 100 && what != 101) {
            return -1;
        }
        List<Integer> owing = new ArrayList<>();
        List<Integer> owed = new ArrayList<>();
        for (int p = 0; p < 10; p++) {
            int lacks = gets(now.debts, p) - pays(now.debts, p);
            for (int k = 0; k < Math.abs(lacks); k++) {
                (lacks > 0 ? owing : owed).add(p);
            }
        }
        if (what == 100) {
            return owing.size();
        }
        if (owing.size() > 6) {
            return -3;
        }
        bestNewHours = 1 << 20;
        tryNew(owing, owed, new ArrayList<>(), 0);
        return what == 101 ? bestNewHours : what < bestNew.size() ? bestNew.get(what) : -4;
    }

    int turned(int what) {
        if (what < 0 || what > 1) {
            return -1;
        }
        List<int[]> coins = new ArrayList<>();
        for (int a = 0; a < 10; a++) {
            for (int b = 0; b < 10; b++) {
                for (int k = 0; k < now.debts[a][b]; k++) {
                    coins.add(new int[] {a, b});
                }
            }
        }
        if (coins.size() > 12) {
            return -3;
        }
        for (int many = 0; many <= coins.size(); many++) {
            for (int bits = 0; bits < 1 << coins.size(); bits++) {
                if (Integer.bitCount(bits) == many && evenWhenTurned(coins, bits)) {
                    return what == 0 ? many : bits;
                }
            }
        }
        return -2;
    }

    private static boolean evenWhenTurned(List<int[]> coins, int bits) {
        int[] balance = new int[10];
        for (int k = 0; k < coins.size(); k++) {
            boolean turn = (bits >> k & 1) == 1;
            balance[coins.get(k)[turn ? 1 : 0]]--;
            balance[coins.get(k)[turn ? 0 : 1]]++;
        }
        return Arrays.equals(balance, new int[10]);
    }

    int fewest() {
        int[] balance = new int[10];
        for (int p = 0; p < 10; p++) {
            balance[p] = gets(now.debts, p) - pays(now.debts, p);
        }
        return settle(balance, 0);
    }

    /** The first one who is not settled settles with another one, in all ways. */
    private static int settle(int[] balance, int from) {
        int p = from;
        while (p < 10 && balance[p] == 0) {
            p++;
        }
        if (p == 10) {
            return 0;
        }
        int best = 100;
        for (int q = p + 1; q < 10; q++) {
            if (balance[q] != 0 && balance[q] > 0 != balance[p] > 0) {
                balance[q] += balance[p];
                best = Math.min(best, 1 + settle(balance, p + 1));
                balance[q] -= balance[p];
            }
        }
        return best;
    }

    // ---- who comes to whom

    private boolean[][] reach() {
        boolean[][] reach = new boolean[10][10];
        for (int a = 0; a < 10; a++) {
            for (int b = 0; b < 10; b++) {
                reach[a][b] = a == b || now.debts[a][b] > 0;
            }
        }
        for (int k = 0; k < 10; k++) {
            for (int a = 0; a < 10; a++) {
                for (int b = 0; b < 10; b++) {
                    reach[a][b] |= reach[a][k] && reach[k][b];
                }
            }
        }
        return reach;
    }

    int rings(int what) {
        if (what != 100 && !told(what)) {
            return -1;
        }
        boolean[][] reach = reach();
        Set<Integer> rings = new HashSet<>();
        for (int a : people.keySet()) {
            int ring = 0;
            for (int b : people.keySet()) {
                ring |= reach[a][b] && reach[b][a] ? 1 << b : 0;
            }
            rings.add(ring);
            if (a == what) {
                return ring;
            }
        }
        return rings.size();
    }

    int off() {
        if (now.at == -2) {
            return -2;
        }
        int bits = 0;
        for (int p : people.keySet()) {
            bits |= reach()[now.at][p] ? 0 : 1 << p;
        }
        return bits;
    }
}
