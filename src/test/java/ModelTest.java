import java.util.ArrayList;
import java.util.List;

/** Long runs of calls on OneCoin and on Model at once: each answer must be the same. */
public final class ModelTest {
    private static final int RUNS = 1500;
    private static final int CALLS = 120;

    private long dice = 20261118;
    private OneCoin x;
    private Model m;
    private int told;
    private List<String> log;
    private long asked;
    private int wrong;

    public static void main(String[] args) {
        ModelTest test = new ModelTest();
        for (int run = 0; run < RUNS && test.wrong < 5; run++) {
            test.run(run);
        }
        System.out.println("ModelTest: " + test.asked + " answers, " + test.wrong + " not as due");
        if (test.wrong != 0) {
            System.exit(1);
        }
    }

    private int roll(int n) {
        dice = dice * 6364136223846793005L + 1442695040888963407L;
        return (int) ((dice >>> 33) % n);
    }

    private boolean oneOf(int n) {
        return roll(n) == 0;
    }

    private void run(int run) {
        x = new OneCoin();
        m = new Model();
        log = new ArrayList<>();
        told = run % 50 == 0 ? 0 : 2 + roll(run % 7 == 0 ? 9 : run % 2 == 0 ? 5 : 2);
        boolean wild = run % 10 == 9;
        for (int p = 0; p < told; p++) {
            call("person", p, roll(10), roll(10), 0, 0);
        }
        if (!oneOf(10) && told > 0) {
            call("coin", roll(told), 0, 0, 0, 0);
        }
        if (told > 1) {
            textCall("debts", debtsText(), 0);
        }
        textCall("law", lawText(), 0);
        int before = wrong;
        for (int k = 0; k < CALLS && wrong == before; k++) {
            if (wild) {
                wildCall();
            } else {
                chosenCall();
            }
        }
    }

    // ---- texts

    private String pick(String signs) {
        return String.valueOf(signs.charAt(roll(signs.length())));
    }

    private String letter() {
        return String.valueOf((char) ('a' + (oneOf(40) ? roll(11) : roll(Math.max(1, told)))));
    }

    private String debtsText() {
        StringBuilder text = new StringBuilder();
        int lines = oneOf(30) ? 29 + roll(3) : 1 + roll(oneOf(3) ? 12 : 5);
        boolean ring = oneOf(2);
        int at = roll(Math.max(1, told));
        for (int k = 0; k < lines; k++) {
            int next = oneOf(60) ? at : (at + 1 + roll(Math.max(1, told - 1))) % Math.max(1, told);
            text.append(k == 0 ? "" : ";").append((char) ('a' + at)).append('>').append((char) ('a' + next));
            text.append(oneOf(30) ? pick("0123456789") + pick("0123456789") : oneOf(4) ? pick("1234") : "");
            at = ring ? next : roll(Math.max(1, told));
        }
        return spoil(text.toString(), "abcdefghij>;0123456789 \n!", 160);
    }

    private String number(int depth) {
        StringBuilder text = new StringBuilder();
        int terms = 1 + (oneOf(2) ? roll(3) : 0);
        for (int k = 0; k < terms; k++) {
            text.append(k == 0 ? "" : pick("+-*/%"));
            if (depth > 0 && oneOf(6)) {
                text.append('[').append(number(depth - 1)).append(']');
            } else if (oneOf(2)) {
                text.append(pick("hcnowgty"));
            } else {
                text.append(oneOf(8) ? roll(100000) : roll(12));
            }
        }
        return text.toString();
    }

    private String condition(int depth) {
        StringBuilder text = new StringBuilder();
        int tests = 1 + (oneOf(2) ? roll(3) : 0);
        for (int k = 0; k < tests; k++) {
            text.append(k == 0 ? "" : pick("&|")).append(oneOf(5) ? "!" : "").append(oneOf(20) ? "!!" : "");
            if (depth > 0 && oneOf(5)) {
                text.append('(').append(condition(depth - 1)).append(')');
            } else if (oneOf(4)) {
                text.append("1=1");
            } else {
                text.append(number(depth)).append(pick("<>=")).append(number(depth));
            }
        }
        return text.toString();
    }

    private String lawText() {
        StringBuilder text = new StringBuilder();
        int rules = oneOf(20) ? 15 + roll(3) : 1 + roll(6);
        for (int k = 0; k < rules; k++) {
            String kind = pick("eeeirs");
            int depth = oneOf(5) ? 3 : 1;
            String c = rules > 14 ? "1=1" : condition(depth);
            text.append(k == 0 ? "" : ";").append(kind);
            text.append(kind.equals("s") ? "" : rules > 14 ? "5" : kind.equals("r") ? String.valueOf(roll(11)) : number(depth));
            text.append('(').append(c).append(')');
        }
        if (oneOf(12)) {
            String open = pick("[(!");
            int many = 3 + roll(5);
            String shut = open.equals("[") ? "]" : open.equals("(") ? ")" : "";
            text.setLength(0);
            text.append("e").append(open.equals("[") && oneOf(2) ? "[".repeat(many) + "1" + "]".repeat(many) : "3");
            text.append('(').append(open.repeat(many)).append(open.equals("[") ? "h" : "h=c").append(shut.repeat(many));
            text.append(open.equals("[") ? "<c)" : ")");
        }
        String more = oneOf(3) || text.length() > 220 ? "" : oneOf(2) ? ";e9-w(1=1)" : ";e3+c+h+g(1=1)";
        return spoil(text + more, "eirshcnowgty()[]!&|<>=+-*/%;0123456789 x", 240);
    }

    private String routeText(int depth) {
        StringBuilder text = new StringBuilder();
        int parts = 1 + roll(4);
        for (int k = 0; k < parts; k++) {
            text.append(oneOf(3) ? pick("23456789") : "");
            if (oneOf(4) && depth < 3 && (depth < 2 || oneOf(4))) {
                text.append('(').append(routeText(depth + 1)).append(')');
            } else {
                text.append(letter());
            }
        }
        return text.toString();
    }

    /** Now and then a byte of a text is dropped, put in, changed, or the rest is cut off. */
    private String spoil(String text, String signs, int most) {
        String spoilt = text;
        if (oneOf(4)) {
            int at = roll(text.length() + 1);
            int till = Math.min(text.length(), at + roll(2));
            spoilt = text.substring(0, at) + (oneOf(3) ? "" : pick(signs)) + (oneOf(4) ? "" : text.substring(till));
        }
        spoilt = spoilt.isEmpty() ? "a" : spoilt;
        return spoilt.length() > most ? spoilt.substring(0, most) : spoilt;
    }

    // ---- calls

    private void textCall(String name, String text, int what) {
        byte[] bytes = Calls.bytes(text);
        log.add("text " + text);
        for (int k = 0; k < Calls.feeds(bytes.length); k++) {
            int[] w = Calls.words(bytes, k);
            call("feed", w[0], w[1], w[2], w[3], w[4]);
        }
        call(name, bytes.length, what, 0, 0, 0);
    }

    private int one() {
        return oneOf(25) ? roll(14) - 2 : roll(Math.max(1, told));
    }

    private int someHours() {
        return oneOf(20) ? roll(300) - 10 : oneOf(3) ? 1 + roll(240) : 1 + roll(30);
    }

    private int place(int most) {
        return oneOf(3) ? 98 + roll(6) : oneOf(15) ? roll(130) - 5 : roll(most);
    }

    private void chosenCall() {
        switch (roll(40)) {
            case 0: call("person", one(), roll(oneOf(9) ? 12 : 10), roll(10), 0, 0); break;
            case 1: call("debt", one(), one(), oneOf(9) ? roll(110) - 5 : roll(3), 0, 0); break;
            case 2: case 36: call("coin", one(), 0, 0, 0, 0); break;
            case 3: call("seed", oneOf(9) ? roll(100000) - 9999 : roll(65536), 0, 0, 0, 0); break;
            case 4: textCall("law", lawText(), 0); break;
            case 5: case 6: textCall("debts", debtsText(), 0); break;
            case 7: case 37: call("hours", someHours(), 0, 0, 0, 0); break;
            case 8: call("tried", someHours(), oneOf(3) ? 10 + one() : roll(6), 0, 0, 0); break;
            case 9: call("personIs", one(), oneOf(9) ? roll(9) - 2 : roll(6), 0, 0, 0); break;
            case 10: call("owes", one(), one(), 0, 0, 0); break;
            case 11: case 12: call("likes", one(), one(), 0, 0, 0); break;
            case 13: case 14: textCall("route", spoil(routeText(0), "abcdefghij()23456789 1", 60), roll(3)); break;
            case 15: textCall("walk", spoil(routeText(0), "abcdefghij()23456789 1", 60), 0); break;
            case 16: case 17: rowCall("tour", place(8)); break;
            case 18: rowCall("most", place(12)); break;
            case 19: call("back", one(), oneOf(9) ? roll(4) - 1 : roll(2), 0, 0, 0); break;
            case 20: case 21: call("even", place(6), 0, 0, 0, 0); break;
            case 22: call("turned", oneOf(9) ? roll(5) - 1 : roll(2), 0, 0, 0, 0); break;
            case 23: call("setOff", one(), 0, 0, 0, 0); break;
            case 24: call("fewest", 0, 0, 0, 0, 0); break;
            case 25: call("rings", oneOf(2) ? 100 : one(), 0, 0, 0, 0); break;
            case 26: call("off", 0, 0, 0, 0, 0); break;
            case 27: case 38: call("when", one(), someHours(), 0, 0, 0); break;
            case 28: case 39: call("wedding", one(), one(), someHours(), 0, 0); break;
            case 29: call("longest", 0, 0, 0, 0, 0); break;
            case 30: call("chalk", oneOf(2) ? roll(45) - 2 : roll(Math.max(1, m.count(8))), 0, 0, 0, 0); break;
            case 31: call("two", one(), 0, 0, 0, 0); break;
            case 32: call("dry", oneOf(9) ? roll(13) - 1 : 1 + roll(9), oneOf(9) ? roll(4) - 1 : roll(2), 0, 0, 0); break;
            case 33: call(oneOf(3) ? "keep" : "undo", 0, 0, 0, 0, 0); break;
            case 34: checkCall(); break;
            default: call("count", roll(14) - 1, 0, 0, 0, 0); break;
        }
    }

    /** The model's rows are tried one by one: not with so many DEBTS that it would not end. */
    private void rowCall(String name, int what) {
        if (m.count(1) <= 14 || m.count(1) > 60) {
            call(name, what, 0, 0, 0, 0);
        }
    }

    private void checkCall() {
        StringBuilder text = new StringBuilder();
        int n = roll(11);
        for (int p = 0; p < n; p++) {
            int owed = Math.min(255, Math.max(0, m.personIs(p, 2)));
            text.append((char) (oneOf(25) ? roll(256) : owed));
        }
        textCall("check", text.toString(), 0);
    }

    private int wildInt() {
        int[] edges = {0, 1, -1, -2, 9, 10, 11, 60, 99, 100, 101, 102, 240, 241, 65535, 65536,
            Integer.MAX_VALUE, Integer.MIN_VALUE, Integer.MIN_VALUE + 9, 0x61616161, 0x613e6231};
        return oneOf(3) ? edges[roll(edges.length)] : oneOf(2) ? roll(20) - 4 : roll(1 << 30) * 5;
    }

    private void wildCall() {
        String[] names = {"person", "debt", "coin", "feed", "law", "debts", "hours", "tried", "personIs", "owes", "likes",
            "route", "walk", "tour", "most", "back", "even", "turned", "setOff", "fewest", "rings", "off", "when",
            "wedding", "longest", "chalk", "two", "dry", "seed", "keep", "undo", "check", "count"};
        String name = names[roll(names.length)];
        if (name.equals("tour")) {
            rowCall(name, wildInt());
        } else {
            call(name, wildInt(), wildInt(), wildInt(), wildInt(), wildInt());
        }
    }

    private static int bit(boolean b) {
        return b ? 1 : 0;
    }

    private void call(String name, int a, int b, int c, int d, int e) {
        if (name.equals("fewest") && unsettled() > 8) {
            return;
        }
        int want = ofModel(name, a, b, c, d, e);
        int got = ofProgram(name, a, b, c, d, e);
        asked++;
        log.add(name + "(" + a + ", " + b + ", " + c + ", " + d + ", " + e + ") " + got);
        if (got != want) {
            wrong++;
            for (String line : log) {
                System.out.println(line);
            }
            System.out.println("the last one is due as " + want);
        }
    }

    private int unsettled() {
        int many = 0;
        for (int p = 0; p < 10; p++) {
            int rest = m.setOff(p);
            many += rest != 0 && rest != -1000000 ? 1 : 0;
        }
        return many;
    }

    private int ofProgram(String name, int a, int b, int c, int d, int e) {
        switch (name) {
            case "person": return bit(x.person(a, b, c));
            case "debt": return bit(x.debt(a, b, c));
            case "coin": return bit(x.coin(a));
            case "feed": return x.feed(a, b, c, d, e);
            case "law": return x.law(a);
            case "debts": return x.debts(a);
            case "hours": return x.hours(a);
            case "tried": return x.tried(a, b);
            case "personIs": return x.personIs(a, b);
            case "owes": return x.owes(a, b);
            case "likes": return x.likes(a, b);
            case "route": return x.route(a, b);
            case "walk": return x.walk(a);
            case "tour": return x.tour(a);
            case "most": return x.most(a);
            case "back": return x.back(a, b);
            case "even": return x.even(a);
            case "turned": return x.turned(a);
            case "setOff": return x.setOff(a);
            case "fewest": return x.fewest();
            case "rings": return x.rings(a);
            case "off": return x.off();
            case "when": return x.when(a, b);
            case "wedding": return x.wedding(a, b, c);
            case "longest": return x.longest();
            case "chalk": return x.chalk(a);
            case "two": return x.two(a);
            case "dry": return x.dry(a, b);
            case "seed": return bit(x.seed(a));
            case "keep": return x.keep();
            case "undo": return bit(x.undo());
            case "check": return x.check(a);
            default: return x.count(a);
        }
    }

    private int ofModel(String name, int a, int b, int c, int d, int e) {
        switch (name) {
            case "person": return bit(m.person(a, b, c));
            case "debt": return bit(m.debt(a, b, c));
            case "coin": return bit(m.coin(a));
            case "feed": return m.feed(a, b, c, d, e);
            case "law": return m.law(a);
            case "debts": return m.debts(a);
            case "hours": return m.hours(a);
            case "tried": return m.tried(a, b);
            case "personIs": return m.personIs(a, b);
            case "owes": return m.owes(a, b);
            case "likes": return m.likes(a, b);
            case "route": return m.route(a, b);
            case "walk": return m.walk(a);
            case "tour": return m.tour(a);
            case "most": return m.most(a);
            case "back": return m.back(a, b);
            case "even": return m.even(a);
            case "turned": return m.turned(a);
            case "setOff": return m.setOff(a);
            case "fewest": return m.fewest();
            case "rings": return m.rings(a);
            case "off": return m.off();
            case "when": return m.when(a, b);
            case "wedding": return m.wedding(a, b, c);
            case "longest": return m.longest();
            case "chalk": return m.chalk(a);
            case "two": return m.two(a);
            case "dry": return m.dry(a, b);
            case "seed": return bit(m.seed(a));
            case "keep": return m.keep();
            case "undo": return bit(m.undo());
            case "check": return m.check(a);
            default: return m.count(a);
        }
    }
}
