import java.util.ArrayList;
import java.util.List;

/** What a call that is refused, or that only asks, leaves as it was; and what is told first where several things fit. */
public final class RefusedTest {
    private static final Calls T = new Calls("RefusedTest");
    private static final String TEXT = "a>b5;b>c7;c>a9";

    private interface Call {
        int on(OneCoin x);
    }

    private enum Coin { NOWHERE, HELD, ON_ITS_WAY }

    public static void main(String[] args) {
        for (Coin coin : Coin.values()) {
            refused(coin);
            extremes(coin);
            asked(coin);
            faults(coin);
        }
        nobodyHolds();
        routeOrder();
        tourOrder();
        mostOrder();
        evenOrder();
        turnedOrder();
        twoOrder();
        wayOrder();
        textOrder();
        T.end();
    }

    private static int bit(boolean b) {
        return b ? 1 : 0;
    }

    /** A state with something of everything, and TEXT on the tape. */
    private static OneCoin made(Coin coin) {
        OneCoin x = new OneCoin();
        x.person(0, 1, 2);
        x.person(1, 4, 2);
        x.person(2, 4, 9);
        x.seed(4711);
        Calls.debts(x, "a>b4;b>a4;b>c2;c>a3");
        Calls.law(x, "e3+c(y>0);i1(n=2);r4(y>1);s(h=2&c=1)");
        x.coin(2);
        x.keep();
        x.hours(5);
        x.coin(0);
        Calls.walk(x, "ba");
        x.hours(coin == Coin.ON_ITS_WAY ? 27 : 20);
        if (coin == Coin.NOWHERE) {
            OneCoin y = new OneCoin();
            y.person(0, 1, 2);
            y.person(1, 4, 2);
            y.person(2, 4, 9);
            Calls.debts(y, "a>b4;b>a4;b>c2;c>a3");
            Calls.law(y, "e3+c(y>0);i1(n=2);r4(y>1);s(h=2&c=1)");
            y.keep();
            y.hours(25);
            Calls.feed(y, TEXT);
            return y;
        }
        Calls.feed(x, TEXT);
        return x;
    }

    private static void add(List<Integer> all, OneCoin x) {
        for (int what = 0; what <= 11; what++) {
            all.add(x.count(what));
        }
        for (int p = 0; p < 3; p++) {
            for (int what = 0; what <= 5; what++) {
                all.add(x.personIs(p, what));
            }
            for (int q = 0; q < 3; q++) {
                all.add(x.owes(p, q));
                all.add(x.likes(p, q));
            }
            all.add(x.tried(50, 10 + p));
        }
        for (int k = 0; k < 8; k++) {
            all.add(x.chalk(k));
        }
        for (int what = 0; what <= 5; what++) {
            all.add(x.tried(50, what));
        }
        all.add(x.dry(1, 0));
        all.add(x.dry(1, 1));
    }

    /** All that can be seen of it: the last calls take the bytes off the tape, and undo it. */
    private static List<Integer> seen(OneCoin x) {
        List<Integer> all = new ArrayList<>();
        add(all, x);
        all.add(x.debts(TEXT.length()));
        add(all, x);
        all.add(bit(x.undo()));
        add(all, x);
        return all;
    }

    private static void same(String call, OneCoin x, OneCoin before) {
        List<Integer> now = seen(x);
        List<Integer> due = seen(before);
        int first = -1;
        for (int k = due.size() - 1; k >= 0; k--) {
            first = now.get(k).equals(due.get(k)) ? first : k;
        }
        T.due(call + " changes nothing: the first thing seen that it changed", first, -1);
    }

    private static void leaves(Coin coin, String name, int want, Call call) {
        OneCoin x = made(coin);
        T.due(coin + ": " + name, call.on(x), want);
        same(coin + ": " + name, x, made(coin));
    }

    private static void refused(Coin coin) {
        T.says("A call that is refused (NONE, false) changes nothing");
        leaves(coin, "person(10, 1, 1)", 0, x -> bit(x.person(10, 1, 1)));
        leaves(coin, "person(-1, 1, 1)", 0, x -> bit(x.person(-1, 1, 1)));
        leaves(coin, "person(1, 10, 1)", 0, x -> bit(x.person(1, 10, 1)));
        leaves(coin, "person(1, 1, 10)", 0, x -> bit(x.person(1, 1, 10)));
        leaves(coin, "person(1, -1, 1)", 0, x -> bit(x.person(1, -1, 1)));
        leaves(coin, "person(5, 1, -1)", 0, x -> bit(x.person(5, 1, -1)));
        leaves(coin, "debt(0, 0, 1)", 0, x -> bit(x.debt(0, 0, 1)));
        leaves(coin, "debt(0, 3, 1)", 0, x -> bit(x.debt(0, 3, 1)));
        leaves(coin, "debt(3, 0, 1)", 0, x -> bit(x.debt(3, 0, 1)));
        leaves(coin, "debt(0, 1, 100)", 0, x -> bit(x.debt(0, 1, 100)));
        leaves(coin, "debt(0, 1, -1)", 0, x -> bit(x.debt(0, 1, -1)));
        leaves(coin, "coin(3)", 0, x -> bit(x.coin(3)));
        leaves(coin, "coin(-1)", 0, x -> bit(x.coin(-1)));
        leaves(coin, "seed(65536)", 0, x -> bit(x.seed(65536)));
        leaves(coin, "seed(-1)", 0, x -> bit(x.seed(-1)));
        leaves(coin, "hours(0)", -1, x -> x.hours(0));
        leaves(coin, "hours(241)", -1, x -> x.hours(241));
        leaves(coin, "law(0)", -1, x -> x.law(0));
        leaves(coin, "law(21)", -1, x -> x.law(21));
        leaves(coin, "law(241)", -1, x -> x.law(241));
        leaves(coin, "debts(0)", -1, x -> x.debts(0));
        leaves(coin, "debts(21)", -1, x -> x.debts(21));
        leaves(coin, "debts(161)", -1, x -> x.debts(161));
        leaves(coin, "route(0, 0)", -1, x -> x.route(0, 0));
        leaves(coin, "route(21, 0)", -1, x -> x.route(21, 0));
        leaves(coin, "route(1, 3)", -1, x -> x.route(1, 3));
        leaves(coin, "route(1, -1)", -1, x -> x.route(1, -1));
        leaves(coin, "walk(0)", -1, x -> x.walk(0));
        leaves(coin, "walk(21)", -1, x -> x.walk(21));
        leaves(coin, "walk(61)", -1, x -> x.walk(61));
        leaves(coin, "check(11)", -2, x -> x.check(11));
        leaves(coin, "check(-1)", -2, x -> x.check(-1));
    }

    private static void extremes(Coin coin) {
        T.says("NONE, false: no such ones");
        for (int n : new int[] {Integer.MIN_VALUE, Integer.MIN_VALUE + 10, -1000000, 1000000, Integer.MAX_VALUE}) {
            OneCoin x = made(coin);
            int[] answers = {bit(x.person(n, 0, 0)), bit(x.person(0, n, 0)), bit(x.person(0, 0, n)), bit(x.debt(n, 0, 0)),
                bit(x.debt(0, n, 0)), bit(x.debt(0, 1, n)), bit(x.coin(n)), bit(x.seed(n)), x.law(n) + 1,
                x.debts(n) + 1, x.hours(n) + 1, x.tried(n, 0) + 1, x.tried(1, n) + 1, x.personIs(n, 0) + 1, x.personIs(0, n) + 1,
                x.owes(n, 0) + 1, x.owes(0, n) + 1, x.likes(n, 0) + 1, x.likes(0, n) + 1, x.route(n, 0) + 1, x.route(1, n) + 1,
                x.walk(n) + 1, x.tour(n) + 1, x.most(n) + 1, x.back(n, 0) + 1, x.back(0, n) + 1, x.even(n) + 1, x.turned(n) + 1,
                x.setOff(n) + 1000000, x.rings(n) + 1, x.when(n, 1) + 1, x.when(0, n) + 1, x.wedding(n, 0, 1) + 1,
                x.wedding(0, n, 1) + 1, x.wedding(0, 1, n) + 1, x.chalk(n) + 1, x.two(n) + 1, x.dry(n, 0) + 1, x.dry(1, n) + 1,
                x.check(n) + 2, x.count(n) + 1};
            for (int k = 0; k < answers.length; k++) {
                T.due("the call " + k + " with " + n + ", what it told of", answers[k], 0);
            }
            same(coin + ": all of them with " + n, x, made(coin));
        }
    }

    private static void asks(Coin coin, String name, Call call) {
        OneCoin x = made(coin);
        int first = call.on(x);
        T.due(coin + ": " + name + " again", call.on(x), first);
        same(coin + ": " + name, x, made(coin));
    }

    private static void asked(Coin coin) {
        T.says("Nothing is promised beyond the state changes described: what asks changes nothing, and answers the same again");
        asks(coin, "tried", x -> x.tried(100, 0) + 1000 * x.tried(240, 1));
        asks(coin, "likes", x -> x.likes(0, 1));
        asks(coin, "tour", x -> x.tour(100) + x.tour(101) + x.tour(102) + x.tour(3));
        asks(coin, "most", x -> x.most(100) + 20 * x.most(3));
        asks(coin, "back", x -> x.back(0, 0) + 100 * x.back(1, 1));
        asks(coin, "even", x -> x.even(100) + 100 * x.even(101) + 1000 * x.even(0));
        asks(coin, "turned", x -> x.turned(0) + 100 * x.turned(1));
        asks(coin, "setOff", x -> x.setOff(0));
        asks(coin, "fewest", x -> x.fewest());
        asks(coin, "rings", x -> x.rings(100) + 100 * x.rings(0));
        asks(coin, "off", x -> x.off());
        asks(coin, "when", x -> x.when(1, 240));
        asks(coin, "wedding", x -> x.wedding(0, 1, 240));
        asks(coin, "longest", x -> x.longest());
        asks(coin, "two", x -> x.two(1));
        asks(coin, "dry", x -> x.dry(9, 0));
    }

    /** A text with a FAULT takes itself off the tape, and changes nothing else. */
    private static void empties(Coin coin, String name, String text, int want, Call call) {
        OneCoin x = made(coin);
        x.check(0);
        Calls.feed(x, text);
        T.due(coin + ": " + name + " " + text, call.on(x), want);
        T.due(coin + ": the tape is empty behind " + name, x.count(10), 0);
        Calls.feed(x, TEXT);
        same(coin + ": " + name + " " + text, x, made(coin));
    }

    private static void faults(Coin coin) {
        T.says("a FAULT: -1000 times its number, less its place (the one before stays; they stay)");
        empties(coin, "law", "e9(1=1);s(1=2", -1013, x -> x.law(13));
        empties(coin, "law", "e9(1=1);s(1=2)x", -1014, x -> x.law(15));
        empties(coin, "law", "r9(1=1);e123456", -2014, x -> x.law(15));
        empties(coin, "debts", "a>c9;b>c9;c>j", -7012, x -> x.debts(13));
        empties(coin, "debts", "a>c9;b>c9;c>a0", -3013, x -> x.debts(14));
        empties(coin, "debts", "a>c9;b>b", -6007, x -> x.debts(8));
        empties(coin, "walk", "bab(", -1004, x -> x.walk(4));
        empties(coin, "walk", "ba7(9c)", -6002, x -> x.walk(7));
        empties(coin, "route", "ba(((", -5004, x -> x.route(5, 0));
        T.says("route: as it would be");
        int want = coin == Coin.HELD ? 2 : -2;
        empties(coin, "route", "ba", want, x -> x.route(2, 0));
        T.says("-2: nobody HOLDS it; 1 to 60; empty then");
        if (coin != Coin.HELD) {
            empties(coin, "walk", "ba", -2, x -> x.walk(2));
        } else {
            empties(coin, "walk", "a", 0, x -> x.walk(1));
        }
    }

    private static void nobodyHolds() {
        T.says("-2: nobody HOLDS it");
        for (Coin coin : new Coin[] {Coin.NOWHERE, Coin.ON_ITS_WAY}) {
            OneCoin x = made(coin);
            T.due(coin + ": count(2)", x.count(2), -2);
            T.due(coin + ": tour", x.tour(100), -2);
            T.due(coin + ": most", x.most(100), -2);
            T.due(coin + ": off", x.off(), -2);
            T.due(coin + ": two", x.two(0), -2);
            T.due(coin + ": on its WAY", x.count(3) >= 0, coin == Coin.ON_ITS_WAY);
            T.due(coin + ": HOURS still", x.count(4) > 0, coin == Coin.ON_ITS_WAY);
        }
    }

    // ---- NONE first, then a FAULT, then -2, then -3 and so on

    private static void routeOrder() {
        T.says("NONE is told first, then a FAULT, then -2: route, walk");
        OneCoin x = Calls.people(2);
        Calls.feed(x, "k");
        T.due("NONE ahead of a FAULT, -2", x.route(1, 3), -1);
        T.due("NONE ahead of a FAULT, -2", x.route(61, 0), -1);
        T.due("NONE ahead of a FAULT, -2", x.walk(61), -1);
        T.due("a FAULT ahead of -2", x.route(1, 0), -1000);
        Calls.feed(x, "k");
        T.due("a FAULT ahead of -2", x.walk(1), -1000);
        T.due("-2", Calls.route(x, "b", 0), -2);
        T.due("-2", Calls.walk(x, "b"), -2);
        T.due("NONE ahead of -2", x.walk(1), -1);
    }

    private static void tourOrder() {
        T.says("NONE, -2, -3, -4: tour");
        OneCoin x = Calls.people(3);
        x.debt(0, 1, 61);
        T.due("NONE ahead of -2, -3", x.tour(-1), -1);
        for (int what : new int[] {0, 59, 100, 101, 102}) {
            T.due("-2 ahead of -3: " + what, x.tour(what), -2);
        }
        x.coin(2);
        T.due("NONE ahead of -3", x.tour(-1), -1);
        for (int what : new int[] {0, 59, 100, 101, 102}) {
            T.due("-3 ahead of -4: " + what, x.tour(what), -3);
        }
        x.debt(0, 1, 1);
        T.due("NONE ahead of -4", x.tour(-1), -1);
        T.due("-4", x.tour(0), -4);
        T.due("-4", x.tour(102), -4);
    }

    private static void mostOrder() {
        T.says("NONE, -2, -3, -4: most");
        OneCoin x = Calls.people(3);
        x.debt(0, 1, 13);
        T.due("NONE ahead of -2, -3", x.most(12), -1);
        T.due("-2 ahead of -3", x.most(100), -2);
        T.due("-2 ahead of -3, -4", x.most(11), -2);
        x.coin(2);
        T.due("NONE ahead of -3", x.most(12), -1);
        T.due("-3", x.most(100), -3);
        T.due("-3 ahead of -4", x.most(11), -3);
        x.debt(0, 1, 12);
        T.due("NONE ahead of -4", x.most(12), -1);
        T.due("-4", x.most(11), -4);
    }

    private static void evenOrder() {
        T.says("NONE, -3, -4: even");
        OneCoin x = Calls.people(2);
        x.debt(0, 1, 7);
        T.due("NONE ahead of -3", x.even(6), -1);
        T.due("-3", x.even(5), -3);
        x.debt(0, 1, 2);
        T.due("NONE ahead of -4", x.even(6), -1);
        T.due("-4", x.even(5), -4);
    }

    private static void turnedOrder() {
        T.says("in turned() -3 ahead of -2");
        OneCoin x = Calls.people(2);
        x.debt(0, 1, 13);
        T.due("NONE ahead of -3, -2", x.turned(2), -1);
        T.due("-3 ahead of -2", x.turned(0), -3);
        T.due("-3 ahead of -2", x.turned(1), -3);
        x.debt(0, 1, 11);
        T.due("NONE ahead of -2", x.turned(2), -1);
        T.due("-2", x.turned(0), -2);
    }

    private static void twoOrder() {
        T.says("NONE, -2, -3, -4: two");
        OneCoin x = Calls.people(3);
        x.debt(0, 1, 9);
        T.due("NONE ahead of -2, -3, -4", x.two(3), -1);
        T.due("-2 ahead of -3, -4", x.two(1), -2);
        x.coin(2);
        T.due("NONE ahead of -3, -4", x.two(3), -1);
        T.due("-3 ahead of -4", x.two(1), -3);
        x.debt(0, 1, 8);
        T.due("NONE ahead of -4", x.two(3), -1);
        T.due("-4", x.two(1), -4);
    }

    private static void wayOrder() {
        T.says("NONE is told first: when, wedding, back, tried, dry");
        OneCoin x = Calls.people(2);
        x.coin(0);
        T.due("NONE ahead of 0 HOURS", x.when(0, 0), -1);
        T.due("NONE ahead of 0 HOURS", x.when(0, 241), -1);
        T.due("NONE ahead of -2", x.when(2, 1), -1);
        T.due("NONE ahead of -2", x.when(1, 0), -1);
        T.due("NONE ahead of -2", x.wedding(0, 0, 1), -1);
        T.due("NONE ahead of -2", x.wedding(0, 1, 241), -1);
        T.due("NONE ahead of -2", x.back(2, 0), -1);
        T.due("NONE ahead of -2", x.back(0, 2), -1);
        T.due("NONE ahead of nobody", Calls.people(1).tried(0, 2), -1);
        T.due("NONE of both", x.dry(10, 2), -1);
        T.says("or what is told in its place: setOff, check");
        T.due("setOff", x.setOff(2), -1000000);
        T.due("check", x.check(1), -2);
    }

    private static void textOrder() {
        T.says("NONE ahead of a FAULT: law, debts");
        OneCoin x = Calls.people(2);
        Calls.feed(x, "#".repeat(260));
        T.due("law(241)", x.law(241), -1);
        T.due("debts(161)", x.debts(161), -1);
        T.due("route(61, 0)", x.route(61, 0), -1);
        T.due("walk(61)", x.walk(61), -1);
        T.due("check(11)", x.check(11), -2);
        T.due("route(1, 9)", x.route(1, 9), -1);
        T.due("the tape stays", x.count(10), 260);
        T.due("law(240)", x.law(240), -1000);
        Calls.feed(x, "#".repeat(260));
        T.due("debts(160)", x.debts(160), -1000);
        Calls.feed(x, "#".repeat(260));
        T.due("walk(60)", x.walk(60), -1000);
        Calls.feed(x, "#".repeat(260));
        T.due("route(60, 0)", x.route(60, 0), -1000);
        Calls.feed(x, "#".repeat(260));
        T.due("check(10)", x.check(10), 0);
    }
}
