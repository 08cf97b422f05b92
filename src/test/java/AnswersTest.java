/** The boundaries of what is asked of DEBTS, of who gets THE COIN, of what is KEPT and CHECKED. */
public final class AnswersTest {
    private static final Calls T = new Calls("AnswersTest");

    public static void main(String[] args) {
        feed();
        debtBounds();
        triedOnes();
        personIsOnes();
        walkedNothing();
        walkedTillTheEnd();
        tourPlaces();
        tourOfNone();
        tourOfSixty();
        tourCan();
        tourLeastRow();
        mostPlaces();
        mostOfTwelve();
        mostLeastRow();
        back();
        backLong();
        evenPlaces();
        evenOfSix();
        evenRows();
        turnedOfTwelve();
        turnedBits();
        setOff();
        fewest();
        rings();
        off();
        when();
        weddingDays();
        weddingHours();
        longest();
        chalk();
        twoOfEight();
        twoRows();
        dry();
        seed();
        keepAndUndo();
        undoOnItsWay();
        check();
        checkMany();
        counts();
        ownMemory();
        manyCalls();
        T.end();
    }

    private static void feed() {
        T.says("Twenty bytes come behind the tape: how many it has; NONE if that would be more than 260");
        OneCoin x = Calls.people(2);
        for (int k = 1; k <= 13; k++) {
            T.due("feed " + k, x.feed(0, 0, 0, 0, 0), 20 * k);
            T.due("bytes", x.count(10), 20 * k);
        }
        T.due("280", x.feed(1, 1, 1, 1, 1), -1);
        T.due("bytes", x.count(10), 260);
        T.says("the highest of each int first");
        OneCoin y = Calls.people(1);
        int[] words = {0x61613261, 0x32613261, 0x28612961, 0x61616161, 0x616b6161};
        y.feed(words[0], words[1], words[2], words[3], words[4]);
        y.coin(0);
        T.due("the 18th byte is a k", y.walk(20), -1017);
        y.feed(words[0], words[1], words[2], words[3], words[4]);
        T.due("the 17 ahead of it are good", y.walk(17), 0);
        T.says("behind the tape");
        Calls.feed(x, "");
        x.check(0);
        x.feed(0x613e6239, 0x3b623e61, 0x353b613e, 0x62313b61, 0x3e62343b);
        T.due("forty", x.feed(0x613e6233, 0xffffffff, 0, 0, 0), 40);
        T.due("over both", x.debts(24), 9 + 5 + 1 + 4 + 3);
        x.feed(-1, Integer.MIN_VALUE, 255, 0, 0);
        T.due("a byte of 255", x.check(1), 0);
        x.feed(0x05000000, 0, 0, 0, 0);
        T.due("the first byte", x.check(1), 0);
        x.feed(0x11050000, 0, 0, 0, 0);
        T.due("the first byte, then the second", x.check(2), -1);
    }

    private static void debtBounds() {
        T.says("DEBTS: a number (0 to 99)");
        OneCoin x = Calls.people(2);
        int[] good = {0, 1, 98, 99};
        for (int n : good) {
            T.due("debt of " + n, x.debt(0, 1, n), true);
            T.due("owes", x.owes(0, 1), n);
            T.due("not the other way", x.owes(1, 0), 0);
        }
        for (int n : new int[] {-1, 100, Integer.MIN_VALUE, Integer.MAX_VALUE, 256}) {
            T.due("debt of " + n, x.debt(0, 1, n), false);
            T.due("owes", x.owes(0, 1), 99);
        }
        T.says("A DEBT of a told one to another told one: true; false: no such ones");
        for (int p : new int[] {-1, 2, 9, 10, Integer.MIN_VALUE, Integer.MAX_VALUE}) {
            T.due("debt(" + p + ", 0, 1)", x.debt(p, 0, 1), false);
            T.due("debt(0, " + p + ", 1)", x.debt(0, p, 1), false);
            T.due("owes(" + p + ", 0)", x.owes(p, 0), -1);
            T.due("owes(0, " + p + ")", x.owes(0, p), -1);
            T.due("likes(" + p + ", 0)", x.likes(p, 0), -1);
            T.due("likes(0, " + p + ")", x.likes(0, p), -1);
            T.due("coin(" + p + ")", x.coin(p), false);
        }
        T.due("debt(0, 0, 0)", x.debt(0, 0, 0), false);
        T.due("debt(1, 1, 1)", x.debt(1, 1, 1), false);
        T.due("likes(1, 1)", x.likes(1, 1), -1);
        T.due("coins owed in all", x.count(1), 99);
        T.due("nobody HOLDS it", x.count(2), -2);
    }

    private static void triedOnes() {
        T.says("HOURS (1 to 240) that are tried; 10 + p HELD by told one p in them; NONE: no such ones");
        OneCoin x = Calls.people(10);
        x.coin(9);
        T.due("tried(1, 19)", x.tried(1, 19), 1);
        T.due("tried(240, 19)", x.tried(240, 19), 240);
        T.due("tried(1, 10)", x.tried(1, 10), 0);
        for (int what : new int[] {-1, 6, 7, 8, 9, 20, Integer.MIN_VALUE, Integer.MIN_VALUE + 9, Integer.MAX_VALUE}) {
            T.due("tried(1, " + what + ")", x.tried(1, what), -1);
        }
        for (int n : new int[] {0, -1, 241, Integer.MIN_VALUE, Integer.MAX_VALUE}) {
            T.due("tried(" + n + ", 0)", x.tried(n, 0), -1);
            T.due("hours(" + n + ")", x.hours(n), -1);
            T.due("when(9, " + n + ")", x.when(9, n), -1);
            T.due("when(0, " + n + ")", x.when(0, n), -1);
            T.due("wedding(0, 1, " + n + ")", x.wedding(0, 1, n), -1);
        }
        OneCoin some = Calls.people(2);
        for (int p = 2; p < 10; p++) {
            T.due("of one not told: " + p, some.tried(1, 10 + p), -1);
        }
        T.due("2 who HOLDS it then (-2: nobody)", some.tried(1, 2), -2);
        T.due("no PAYINGS", some.tried(240, 0), 0);
        T.due("HELD by nobody", some.tried(240, 11), 0);
        some.coin(1);
        some.hours(5);
        T.due("HELD in them, not ahead of them", some.tried(3, 11), 3);
        T.due("HELD stays", some.personIs(1, 4), 5);
    }

    private static void personIsOnes() {
        T.says("Of a told one, what 0 to 5; NONE for others");
        OneCoin x = Calls.people(9);
        x.person(8, 9, 9);
        for (int a = 0; a < 9; a++) {
            x.debt(8, a, 99);
            x.debt(a, 8, 99);
        }
        T.due("x", x.personIs(8, 0), 9);
        T.due("owes in all", x.personIs(8, 2), 8 * 99);
        T.due("gets in all", x.personIs(8, 3), 8 * 99);
        T.due("one DEBT", x.personIs(0, 2), 99);
        for (int p : new int[] {-1, 9, 10, Integer.MIN_VALUE, Integer.MAX_VALUE}) {
            for (int what = 0; what <= 5; what++) {
                T.due("personIs(" + p + ", " + what + ")", x.personIs(p, what), -1);
            }
            T.due("setOff(" + p + ")", x.setOff(p), -1000000);
            T.due("rings(" + p + ")", x.rings(p), -1);
            T.due("back(" + p + ", 0)", x.back(p, 0), -1);
            T.due("two(" + p + ")", x.two(p), -1);
            T.due("when(" + p + ", 1)", x.when(p, 1), -1);
            T.due("wedding(" + p + ", 0, 1)", x.wedding(p, 0, 1), -1);
            T.due("wedding(0, " + p + ", 1)", x.wedding(0, p, 1), -1);
        }
        for (int what : new int[] {-1, 6, 100, Integer.MIN_VALUE, Integer.MAX_VALUE}) {
            T.due("personIs(0, " + what + ")", x.personIs(0, what), -1);
            T.due("back(0, " + what + ")", x.back(0, what), -1);
            T.due("turned(" + what + ")", x.turned(what), -1);
            T.due("dry(1, " + what + ")", x.dry(1, what), -1);
        }
    }

    private static void walkedNothing() {
        T.says("-2: nobody HOLDS it (asked behind the FAULT)");
        OneCoin x = Calls.owing(3, "a>c2");
        T.due("route", Calls.route(x, "c", 0), -2);
        T.due("the tape is empty", x.count(10), 0);
        T.due("walk", Calls.walk(x, "c"), -2);
        T.due("the tape is empty", x.count(10), 0);
        T.due("a FAULT of route", Calls.route(x, "ck", 2), -1001);
        T.due("a FAULT of walk", Calls.walk(x, "ck"), -1001);
        Calls.law(x, "e1(1=1)");
        x.coin(0);
        x.hours(7);
        T.due("on its WAY: route", Calls.route(x, "c", 1), -2);
        T.due("on its WAY: walk", Calls.walk(x, "c"), -2);
        T.due("on its WAY still", x.count(4), 2);
        x.hours(2);
        T.due("c HOLDS it: PAYINGS", Calls.route(x, "a", 0), 0);
        T.due("c HOLDS it: HOURS", Calls.route(x, "a", 1), 0);
        T.due("c HOLDS it then", Calls.route(x, "a", 2), 2);
        T.due("to itself", Calls.walk(x, "c"), 0);
        T.due("no CHALK of it", x.count(8), 1);
        T.due("c HOLDS it", x.count(2), 2);
        for (int what : new int[] {-1, 3, Integer.MIN_VALUE, Integer.MAX_VALUE}) {
            Calls.feed(x, "a");
            T.due("route(1, " + what + ")", x.route(1, what), -1);
            T.due("the tape stays", x.count(10), 20);
            x.check(0);
        }
    }

    private static void walkedTillTheEnd() {
        T.says("how many PAYINGS can be (each less a DEBT), their HOURS (ways together)");
        OneCoin x = Calls.people(3);
        x.person(2, 9, 9);
        Calls.debts(x, "a>b;b>c;c>a2;a>c");
        x.coin(0);
        T.due("PAYINGS", Calls.route(x, "bcaca", 0), 5);
        T.due("HOURS", Calls.route(x, "bcaca", 1), 1 + 17 + 18 + 18 + 18);
        T.due("who HOLDS it then", Calls.route(x, "bcac", 2), 2);
        T.due("a second time there is none", Calls.route(x, "bcabc", 0), 3);
        T.due("its HOURS", Calls.route(x, "bcabc", 1), 36);
        T.due("who HOLDS it then", Calls.route(x, "bcabc", 2), 0);
        T.due("route does nothing", x.count(1), 5);
        T.due("route CHALKS nothing", x.count(8), 0);
        T.says("done: DEBTS are less, who was last HOLDS it, all are CHALKED (THE HOUR, THE DAY, HELD are not touched)");
        T.due("walk", Calls.walk(x, "bcabc"), 3);
        T.due("DEBTS", x.count(1), 2);
        T.due("who HOLDS it", x.count(2), 0);
        T.dueRow("CHALK", Calls.chalkRow(x), 1, 2, 0);
        T.due("THE HOUR", x.count(5), 0);
        T.due("THE DAY", x.count(6), 0);
        T.due("HELD", x.longest(), -2);
        T.due("X", x.count(11), 1);
    }

    // ---- rows

    private static void tourPlaces() {
        T.says("what 100 to 102, else who is paid at place what (0 on); -4: no such place; NONE: no such what");
        OneCoin x = Calls.holding(2, "a>b2;b>a");
        T.dueRow("the row", Calls.tourRow(x), 1, 0, 1);
        T.due("the place behind the last", x.tour(3), -4);
        T.due("the last place that can be", x.tour(59), -4);
        for (int what : new int[] {-1, -100, Integer.MIN_VALUE, Integer.MAX_VALUE}) {
            T.due("tour(" + what + ")", x.tour(what), -1);
        }
        T.says("-4: it can't be, no such place (of 102, places)");
        x.debt(1, 0, 3);
        T.due("it can't be", x.tour(100), 0);
        T.due("how many all the same", x.tour(101), 5);
        T.due("home", x.tour(102), -4);
        T.due("the first place", x.tour(0), -4);
        T.due("a place behind", x.tour(5), -4);
    }

    private static void tourOfNone() {
        T.says("THE TOUR: all DEBTS paid in one row from who HOLDS it (of none)");
        OneCoin x = Calls.people(3);
        T.due("nobody HOLDS it", x.tour(100), -2);
        T.due("nobody HOLDS it: how many", x.tour(101), -2);
        T.due("nobody HOLDS it: a place", x.tour(0), -2);
        x.coin(1);
        T.due("it can be", x.tour(100), 1);
        T.due("how many", x.tour(101), 0);
        T.due("at home", x.tour(102), 1);
        T.due("no place", x.tour(0), -4);
        OneCoin way = Calls.holding(3, "a>c");
        Calls.law(way, "e1(1=1)");
        way.hours(7);
        T.due("on its WAY", way.tour(100), -2);
        T.due("on its WAY: most", way.most(100), -2);
        T.due("on its WAY: off", way.off(), -2);
        T.due("on its WAY: two", way.two(1), -2);
        T.due("on its WAY: back", way.back(0, 0), -2);
        T.due("on its WAY: who HOLDS it", way.tried(1, 2), -2);
    }

    private static void tourOfSixty() {
        T.says("at most 60; -3: more than 60");
        OneCoin x = Calls.holding(3, "a>b20;b>c20;c>a20");
        T.due("60: it can be", x.tour(100), 1);
        T.due("60", x.tour(101), 60);
        T.due("60: home", x.tour(102), 1);
        T.due("60: the first place", x.tour(0), 1);
        T.due("60: the last place", x.tour(59), 0);
        T.due("60: the last but one", x.tour(58), 2);
        x.debt(1, 0, 1);
        for (int what : new int[] {0, 59, 100, 101, 102}) {
            T.due("61: " + what, x.tour(what), -3);
        }
        Calls.debts(x, "a>b20;b>c20;c>a19");
        T.due("59", x.tour(101), 59);
        T.due("59: home", x.tour(102), 0);
        T.due("59: the last place", x.tour(58), 2);
        T.due("59: behind it", x.tour(59), -4);
    }

    private static void tourCan() {
        T.says("100 whether it can be (1, 0)");
        String[] debts = {"a>b", "b>a", "a>b;a>c", "a>b;c>b", "a>b;b>a;c>d;d>c", "a>b;c>d", "a>b;b>c;c>a;b>d;d>b", "a>b;b>a2",
            "a>b2;b>a", "a>b2;b>a2", "a>b3;b>a", "b>c;c>b", "a>b;b>c;d>a", "a>b;b>c;c>a;a>d"};
        int[] can = {1, 0, 0, 0, 0, 0, 1, 0, 1, 1, 0, 0, 0, 1};
        int[] home = {0, -4, -4, -4, -4, -4, 1, -4, 0, 1, -4, -4, -4, 0};
        for (int k = 0; k < debts.length; k++) {
            OneCoin x = Calls.holding(4, debts[k]);
            T.due("can be: " + debts[k], x.tour(100), can[k]);
            T.due("comes home: " + debts[k], x.tour(102), home[k]);
        }
    }

    private static void tourLeastRow() {
        T.says("the least row (by who is paid)");
        T.dueRow("b can't be first", Calls.tourRow(Calls.holding(4, "a>c;c>a;a>b")), 2, 0, 1);
        T.dueRow("b can be first", Calls.tourRow(Calls.holding(4, "a>c;c>a;a>b;b>a")), 1, 0, 2, 0);
        T.dueRow("the ring at c before the end", Calls.tourRow(Calls.holding(5, "a>c;c>d;d>c;c>b")), 2, 3, 2, 1);
        T.dueRow("not the same again", Calls.tourRow(Calls.holding(4, "a>b2;b>a;b>c;c>d;d>b")), 1, 0, 1, 2, 3, 1);
        OneCoin x = Calls.people(10);
        Calls.debts(x, "j>i;i>j;j>a;a>j;j>e");
        x.coin(9);
        T.dueRow("from j", Calls.tourRow(x), 0, 9, 8, 9, 4);
    }

    private static void mostPlaces() {
        T.says("THE MOST, what 100 how many, else who is paid at place what; -4: no such place; NONE: no such what (places 0 to 11)");
        OneCoin x = Calls.holding(3, "a>b;b>c");
        T.due("how many", x.most(100), 2);
        T.due("the first", x.most(0), 1);
        T.due("the last", x.most(1), 2);
        for (int place = 2; place <= 11; place++) {
            T.due("no such place " + place, x.most(place), -4);
        }
        for (int what : new int[] {-1, 12, 13, 99, 101, 102, Integer.MIN_VALUE, Integer.MAX_VALUE}) {
            T.due("most(" + what + ")", x.most(what), -1);
        }
        x.coin(2);
        T.due("none from c", x.most(100), 0);
        T.due("none from c: a place", x.most(0), -4);
    }

    private static void mostOfTwelve() {
        T.says("(of 12 DEBTS at most); -3: more than 12 DEBTS");
        OneCoin x = Calls.holding(3, "a>b6;b>a6");
        T.due("12", x.most(100), 12);
        T.due("the last place", x.most(11), 0);
        T.due("the last but one", x.most(10), 1);
        x.debt(2, 0, 1);
        T.due("13", x.most(100), -3);
        T.due("13: a place", x.most(0), -3);
        T.due("13: no such what", x.most(12), -1);
        Calls.debts(x, "b>c12");
        T.due("12 of others", x.most(100), 0);
        Calls.debts(x, "a>b12");
        T.due("12 of one", x.most(100), 1);
        T.dueRow("all there are", Calls.mostRow(Calls.holding(4, "a>b;b>c;c>d;d>a;a>c;c>a;a>d;d>b;b>a;c>b;d>c;b>d")),
            1, 0, 2, 0, 3, 1, 2, 1, 3, 2, 3, 0);
    }

    private static void mostLeastRow() {
        T.says("THE MOST in a row: of like ones the least row");
        T.dueRow("of like ones", Calls.mostRow(Calls.holding(4, "a>d;a>c;a>b")), 1);
        T.dueRow("a longer one is more", Calls.mostRow(Calls.holding(4, "a>b;a>c;c>d")), 2, 3);
        T.dueRow("of like longer ones", Calls.mostRow(Calls.holding(5, "a>b;a>d;a>c;d>e;c>e;c>d")), 2, 3, 4);
        T.dueRow("home first", Calls.mostRow(Calls.holding(4, "a>b;a>c;c>a")), 2, 0, 1);
        T.dueRow("the least of all", Calls.mostRow(Calls.holding(4, "a>b;b>a;a>c;c>a")), 1, 0, 2, 0);
    }

    private static void back() {
        T.says("BACK to a told one, what 0 PAYINGS, 1 HOURS; -2: it does not come back");
        OneCoin x = Calls.people(5);
        x.person(1, 9, 9);
        Calls.debts(x, "a>b99;b>a;a>c;c>d;d>a;d>e");
        T.due("the fewest PAYINGS", x.back(0, 0), 2);
        T.due("the fewest HOURS, of a longer row", x.back(0, 1), 2 + 1 + 3);
        T.due("PAYINGS of c", x.back(2, 0), 3);
        T.due("HOURS of c", x.back(2, 1), 6);
        T.due("HOURS of b", x.back(1, 1), 36);
        T.due("e owes nobody", x.back(4, 0), -2);
        T.due("e owes nobody", x.back(4, 1), -2);
        x.debt(4, 3, 1);
        T.due("e by d", x.back(4, 0), 2);
        x.debt(3, 4, 0);
        T.due("nobody owes e", x.back(4, 0), -2);
        T.due("nobody owes e", x.back(4, 1), -2);
        T.due("one who owes none, nor is owed", Calls.people(1).back(0, 0), -2);
    }

    private static void backLong() {
        T.says("the fewest PAYINGS by which THE COIN comes back (by DEBTS above 0)");
        OneCoin x = Calls.people(10);
        Calls.debts(x, "a>b;b>c;c>d;d>e;e>f;f>g;g>h;h>i;i>j;j>a");
        for (int p = 0; p < 10; p++) {
            T.due("ten PAYINGS of " + p, x.back(p, 0), 10);
            T.due("ten HOURS and more of " + p, x.back(p, 1), 9 + 9);
        }
        OneCoin y = Calls.people(10);
        Calls.debts(y, "j>i;i>h;h>g;g>f;f>e;e>d;d>c;c>b;b>a;a>j");
        for (int p = 0; p < 10; p++) {
            T.due("ten PAYINGS the other way of " + p, y.back(p, 0), 10);
            T.due("ten HOURS and more the other way of " + p, y.back(p, 1), 18);
        }
    }

    // ---- out even

    private static void evenPlaces() {
        T.says("EVEN, what 100, 101, else to whom the k-th (what, 0 on); -4: no such place; NONE: no such what (places 0 to 5)");
        OneCoin x = Calls.owing(3, "a>b2");
        T.due("how many", x.even(100), 2);
        T.due("HOURS", x.even(101), 2);
        T.due("the first", x.even(0), 0);
        T.due("the last", x.even(1), 0);
        for (int place = 2; place <= 5; place++) {
            T.due("no such place " + place, x.even(place), -4);
        }
        for (int what : new int[] {-1, 6, 7, 99, 102, Integer.MIN_VALUE, Integer.MAX_VALUE}) {
            T.due("even(" + what + ")", x.even(what), -1);
        }
        OneCoin none = Calls.owing(3, "a>b;b>c;c>a");
        T.due("EVEN as it is", none.even(100), 0);
        T.due("EVEN as it is: HOURS", none.even(101), 0);
        T.due("EVEN as it is: a place", none.even(0), -4);
    }

    private static void evenOfSix() {
        T.says("(6 new ones at most); -3: more than 6 (of 101, places)");
        OneCoin x = Calls.owing(4, "a>b6;c>d");
        x.debt(2, 3, 0);
        T.due("6", x.even(100), 6);
        T.due("6: HOURS", x.even(101), 6);
        T.due("6: the last place", x.even(5), 0);
        x.debt(2, 3, 1);
        T.due("7: how many all the same", x.even(100), 7);
        T.due("7: HOURS", x.even(101), -3);
        for (int place = 0; place <= 5; place++) {
            T.due("7: place " + place, x.even(place), -3);
        }
        T.due("7: no such what", x.even(6), -1);
        OneCoin many = Calls.people(10);
        for (int p = 1; p < 10; p++) {
            many.debt(0, p, 99);
        }
        T.due("891", many.even(100), 891);
        T.due("891: HOURS", many.even(101), -3);
        OneCoin ring = Calls.owing(3, "a>b99;b>c99;c>a99");
        T.due("many DEBTS, none new", ring.even(101), 0);
    }

    private static void evenRows() {
        T.says("each from one who gets more than one pays to one who pays more");
        OneCoin low = Calls.owing(3, "b>a2;c>a");
        T.due("a is to owe three", low.even(100), 3);
        T.dueRow("to b twice, to c", Calls.evenRow(low), 1, 1, 2);
        T.due("HOURS", low.even(101), 4);
        OneCoin high = new OneCoin();
        high.person(9, 0, 0);
        high.person(8, 0, 2);
        high.debt(8, 9, 2);
        T.due("j is to owe two", high.even(100), 2);
        T.dueRow("to i twice", Calls.evenRow(high), 8, 8);
        T.due("HOURS", high.even(101), 4);
        T.says("by numbers, one as often as it lacks; the HOURS of their ways the fewest together, of like ones the least row");
        OneCoin x = Calls.people(6);
        x.person(0, 0, 0);
        x.person(1, 0, 9);
        x.person(2, 5, 9);
        x.person(3, 5, 0);
        Calls.debts(x, "a>c;b>d");
        T.due("c to b, d to a", x.even(101), 5 + 5);
        T.dueRow("c to b, d to a", Calls.evenRow(x), 1, 0);
        Calls.debts(x, "a>c2;b>d");
        T.dueRow("c, c, d", Calls.evenRow(x), 0, 1, 0);
        T.due("HOURS", x.even(101), 14 + 5 + 5);
        OneCoin like = Calls.owing(4, "a>c;b>d");
        T.due("like ones: HOURS", like.even(101), 4);
        T.dueRow("like ones: the least row", Calls.evenRow(like), 0, 1);
        OneCoin six = new OneCoin();
        for (int p = 0; p < 10; p++) {
            six.person(p, p < 5 ? p : 9 - p, p < 5 ? 0 : 9);
        }
        Calls.debts(six, "a>f;b>g;c>h;d>i;e>j;a>j");
        T.due("six of them", six.even(100), 6);
        T.due("the fewest HOURS", six.even(101), 9 * 6);
        T.dueRow("each to the one across", Calls.evenRow(six), 4, 3, 2, 1, 0, 0);
    }

    private static void turnedOfTwelve() {
        T.says("of 12 DEBTS at most the fewest to turn round so that all is EVEN; -2: it can't be; -3: more than 12 DEBTS");
        OneCoin x = Calls.owing(3, "a>b12");
        T.due("12", x.turned(0), 6);
        T.due("12: which", x.turned(1), 63);
        x.debt(1, 2, 1);
        T.due("13", x.turned(0), -3);
        T.due("13: which", x.turned(1), -3);
        x.debt(0, 1, 11);
        T.due("it can't be", x.turned(0), -2);
        T.due("it can't be: which", x.turned(1), -2);
        Calls.debts(x, "a>b13");
        T.due("13, and it can't be", x.turned(0), -3);
        OneCoin none = Calls.people(2);
        T.due("no DEBTS", none.turned(0), 0);
        T.due("no DEBTS: which", none.turned(1), 0);
        Calls.debts(none, "a>b6;b>a6");
        T.due("EVEN as it is", none.turned(0), 0);
        T.due("EVEN as it is: which", none.turned(1), 0);
    }

    private static void turnedBits() {
        T.says("of like ones the least bits (DEBTS in a row by who owes, then to whom, each coin one)");
        OneCoin x = Calls.owing(3, "a>b;a>c;b>c");
        T.due("a>c", x.turned(1), 2);
        Calls.debts(x, "c>b;c>a;b>a");
        T.due("b>a, c>a, c>b: c>a", x.turned(1), 2);
        Calls.debts(x, "a>b2;b>c;c>a");
        T.due("it can't be", x.turned(1), -2);
        Calls.debts(x, "a>b3;b>a");
        T.due("the first coin of a>b", x.turned(1), 1);
        Calls.debts(x, "b>a3;a>b");
        T.due("the first coin of b>a", x.turned(1), 2);
        Calls.debts(x, "a>b;b>a5");
        T.due("two of b>a", x.turned(1), 6);
        Calls.debts(x, "a>c2;b>a4");
        T.due("a>c once, b>a twice", x.turned(1), 1 + 4 + 8);
        T.due("the fewest", x.turned(0), 3);
        Calls.debts(x, "b>c8;b>a4");
        T.due("12 coins", x.turned(0), 6);
        T.due("12 coins: which", x.turned(1), 3 + 16 * 15);
    }

    private static void setOff() {
        T.says("SET OFF: what one gets less what one owes; -1000000: no such one");
        OneCoin x = Calls.people(10);
        for (int p = 0; p < 9; p++) {
            x.debt(p, 9, 99);
        }
        T.due("the most", x.setOff(9), 891);
        T.due("one who owes", x.setOff(0), -99);
        x.debt(9, 0, 99);
        T.due("0", x.setOff(0), 0);
        T.due("792", x.setOff(9), 792);
        T.due("not told", Calls.people(9).setOff(9), -1000000);
        T.due("nobody owes", Calls.people(9).setOff(8), 0);
    }

    private static void fewest() {
        T.says("FEWEST: payings of any amount, from anybody to anybody, by which all would be settled");
        T.due("nobody told", new OneCoin().fewest(), 0);
        OneCoin x = Calls.people(10);
        T.due("no DEBTS", x.fewest(), 0);
        Calls.debts(x, "a>b99;b>c99;c>a99");
        T.due("settled as it is", x.fewest(), 0);
        Calls.debts(x, "a>b99");
        T.due("one amount", x.fewest(), 1);
        Calls.debts(x, "a>b;b>c;c>d;d>e");
        T.due("from anybody to anybody", x.fewest(), 1);
        Calls.debts(x, "a>b;c>d2;e>f4;g>h8;i>j16");
        T.due("five pairs", x.fewest(), 5);
        Calls.debts(x, "a>b;a>c2;a>d4;a>e8;a>f16;a>g32;a>h64;a>i64;a>j64");
        T.due("all ten in one", x.fewest(), 9);
        Calls.debts(x, "a>c3;b>c2;d>f7;e>f4;g>i;g>j;h>j");
        T.due("three, three, and two pairs or four", x.fewest(), 2 + 2 + 2);
        Calls.debts(x, "a>f5;b>f;b>g3;c>g2;c>h6;d>h2;d>i9;e>i2;e>j9");
        T.due("-5 -4 -8 -11 -11 6 5 8 11 9: three pairs and four", x.fewest(), 3 + 3);
    }

    private static void rings() {
        T.says("RINGS: those who come to each other by DEBTS (both ways) are of one RING: how many (of told ones); one's RING (bits)");
        OneCoin none = new OneCoin();
        T.due("nobody told", none.rings(100), 0);
        T.due("nobody told: a", none.rings(0), -1);
        OneCoin x = Calls.people(10);
        T.due("each its own", x.rings(100), 10);
        T.due("j's own", x.rings(9), 512);
        Calls.debts(x, "a>b");
        T.due("one way alone", x.rings(100), 10);
        T.due("one way alone: a", x.rings(0), 1);
        Calls.debts(x, "a>b;b>c;c>d;d>e;e>f;f>g;g>h;h>i;i>j;j>a");
        T.due("one of all", x.rings(100), 1);
        T.due("one of all: a", x.rings(0), 1023);
        T.due("one of all: j", x.rings(9), 1023);
        x.debt(9, 0, 0);
        T.due("none of all", x.rings(100), 10);
        x.debt(9, 1, 1);
        T.due("b to j", x.rings(100), 2);
        T.due("b to j: b", x.rings(1), 1022);
        T.due("b to j: a", x.rings(0), 1);
        for (int what : new int[] {10, 11, 99, 101}) {
            T.due("rings(" + what + ")", x.rings(what), -1);
        }
    }

    private static void off() {
        T.says("OFF: told ones (bits) to whom THE COIN can't come from who HOLDS it by DEBTS; -2: nobody HOLDS it");
        OneCoin x = Calls.people(10);
        T.due("nobody", x.off(), -2);
        x.coin(0);
        T.due("all but a", x.off(), 1022);
        Calls.debts(x, "a>j;j>b;b>i;i>c;c>h;h>d;d>g;g>e;e>f");
        T.due("none", x.off(), 0);
        x.coin(5);
        T.due("all but f", x.off(), 1023 - 32);
        x.coin(4);
        T.due("all but e, f", x.off(), 1023 - 32 - 16);
        OneCoin some = new OneCoin();
        some.person(9, 0, 0);
        some.coin(9);
        T.due("of told ones alone", some.off(), 0);
        some.person(3, 0, 0);
        T.due("d", some.off(), 8);
    }

    // ---- who gets it when

    private static void when() {
        T.says("THE HOURS from now till one gets it in n HOURS (1 to 240); (who HOLDS it: 0); -2: not in these");
        OneCoin x = Calls.holding(4, "a>b;b>a;a>d");
        Calls.law(x, "e2(c<3);e1(1=1)");
        T.due("a HOLDS it", x.when(0, 1), 0);
        T.due("a HOLDS it, 240", x.when(0, 240), 0);
        T.due("b in 8", x.when(1, 8), 8);
        T.due("b in 7", x.when(1, 7), -2);
        T.due("d in 14", x.when(3, 14), 14);
        T.due("d in 13", x.when(3, 13), -2);
        T.due("c never", x.when(2, 240), -2);
        T.due("b in 1", x.when(1, 1), -2);
        x.hours(7);
        T.due("a sent it, gets it again", x.when(0, 240), 3);
        T.due("b is next", x.when(1, 1), 1);
        T.due("nothing goes by", x.count(5), 7);
        OneCoin late = new OneCoin();
        late.person(0, 0, 0);
        late.person(1, 0, 1);
        late.debt(0, 1, 1);
        late.coin(0);
        Calls.law(late, "e1(y=9&t=19);r10(y=8)");
        T.due("in 237", late.when(1, 237), 237);
        T.due("not in 236", late.when(1, 236), -2);
        T.due("in 240", late.when(1, 240), 237);
        late.person(1, 0, 4);
        T.due("the last of 240", late.when(1, 240), 240);
        late.person(1, 0, 5);
        T.due("behind the last of 240", late.when(1, 240), -2);
        T.due("X stays", late.count(11), 1);
    }

    private static void weddingDays() {
        T.says("A WEDDING: the first DAY of n HOURS on which two both have got it (arrived at both on that DAY)");
        OneCoin x = Calls.owing(3, "a>b9;b>a9");
        Calls.law(x, "e1(y=1&t=10);e1(y=2)");
        x.coin(0);
        T.due("b on DAY 1, a and b on DAY 2", x.wedding(0, 1, 240), 2);
        T.due("the other way", x.wedding(1, 0, 240), 2);
        Calls.law(x, "e1(y=3)");
        T.due("DAYS as they are counted", x.wedding(0, 1, 240), 3);
        x.hours(72);
        T.due("DAYS as they are counted, from DAY 3", x.wedding(0, 1, 24), 3);
        x.hours(24);
        T.due("too late", x.wedding(0, 1, 240), -2);
        OneCoin night = Calls.owing(2, "a>b9;b>a9");
        night.person(1, 4, 0);
        Calls.law(night, "e1(t=14&h=0);e1(t=19&h=1)");
        night.coin(0);
        T.due("b at 18, a at 23", night.wedding(0, 1, 240), 0);
        T.due("in the last HOUR of that DAY", night.wedding(0, 1, 24), 0);
        T.due("not in the HOURS till then", night.wedding(0, 1, 23), -2);
        night.person(1, 5, 0);
        Calls.law(night, "e1(t=10&h=0);e1(t=19&h=1)");
        T.due("a at 0 of the next DAY, b on that DAY, too", night.wedding(0, 1, 240), 1);
        T.due("not in the HOURS till then", night.wedding(0, 1, 24 + 15), -2);
        T.due("in the HOUR of then", night.wedding(0, 1, 24 + 16), 1);
        Calls.law(night, "e1(t=10&h=0&y=0);e1(t=19&h=1)");
        T.due("b on DAY 0, a on DAY 1", night.wedding(0, 1, 240), -2);
    }

    private static void weddingHours() {
        T.says("A WEDDING of two told ones (not the same) in n HOURS (1 to 240); -2: none");
        OneCoin x = Calls.owing(3, "a>b9;b>c9;c>b9");
        Calls.law(x, "e1(1=1)");
        x.coin(0);
        T.due("b at 7, c at 9", x.wedding(1, 2, 10), 0);
        T.due("not in 9 HOURS", x.wedding(1, 2, 9), -2);
        T.due("in 1 HOUR", x.wedding(1, 2, 1), -2);
        T.due("who HOLDS it at first has not got it", x.wedding(0, 1, 240), -2);
        for (int p = 0; p < 3; p++) {
            T.due("the same", x.wedding(p, p, 240), -1);
        }
        x.hours(9);
        T.due("b got it already on that DAY: c, then b again", x.wedding(1, 2, 240), 0);
        T.due("c now, b in three HOURS", x.wedding(1, 2, 3), 0);
        T.due("b's first one is not in these", x.wedding(1, 2, 2), -2);
        OneCoin nobody = Calls.people(2);
        T.due("nobody HOLDS it", nobody.wedding(0, 1, 240), -2);
    }

    private static void longest() {
        T.says("LONGEST: who HELD it longest (of like ones the lowest); -2: nobody HELD it an HOUR");
        OneCoin x = Calls.people(10);
        T.due("nobody", x.longest(), -2);
        x.coin(9);
        T.due("not an HOUR", x.longest(), -2);
        x.hours(1);
        T.due("j, an HOUR", x.longest(), 9);
        x.coin(4);
        x.hours(1);
        T.due("of like ones", x.longest(), 4);
        x.coin(9);
        x.hours(1);
        T.due("j longer", x.longest(), 9);
        x.coin(0);
        x.hours(2);
        T.due("of like ones", x.longest(), 0);
        OneCoin nowhere = Calls.people(1);
        nowhere.hours(240);
        T.due("nowhere", nowhere.longest(), -2);
    }

    private static void chalk() {
        T.says("CHALK: who got it (the last 40 are there), the oldest first; NONE: no such one");
        OneCoin x = Calls.holding(3, "a>b50;b>a50;a>c;c>a");
        T.due("none", x.chalk(0), -1);
        T.due("none: how many", x.count(8), 0);
        Calls.walk(x, "ca");
        T.due("the first", x.chalk(0), 2);
        T.due("the second", x.chalk(1), 0);
        T.due("no third", x.chalk(2), -1);
        Calls.walk(x, "9(ba)9(ba)b");
        T.due("39", x.count(8), 39);
        T.due("no 40th", x.chalk(39), -1);
        Calls.walk(x, "a");
        T.due("40", x.count(8), 40);
        T.due("the oldest of 40", x.chalk(0), 2);
        T.due("the last of 40", x.chalk(39), 0);
        T.due("c is there", x.personIs(2, 5), 1);
        Calls.walk(x, "b");
        T.due("40 of 41", x.count(8), 40);
        T.due("the oldest of 41 is gone", x.chalk(0), 0);
        T.due("the last of 41", x.chalk(39), 1);
        T.due("c is gone", x.personIs(2, 5), 0);
        for (int k : new int[] {-1, 40, 41, Integer.MIN_VALUE, Integer.MAX_VALUE}) {
            T.due("chalk(" + k + ")", x.chalk(k), -1);
        }
    }

    private static void twoOfEight() {
        T.says("all DEBTS (8 at most) are paid by both; -3: more than 8 DEBTS; -4: not all can be paid");
        OneCoin x = Calls.holding(4, "a>b4;b>a4");
        T.due("8", x.two(1), 4);
        T.due("8, the second one with the first", x.two(0), 4);
        T.due("8, the second one at none who owes", x.two(3), 8);
        x.debt(2, 3, 1);
        for (int p = 0; p < 4; p++) {
            T.due("9", x.two(p), -3);
        }
        Calls.debts(x, "c>d");
        T.due("the second one alone", x.two(2), 1);
        T.due("not all", x.two(3), -4);
        T.due("not all", x.two(0), -4);
        x.debt(2, 3, 0);
        for (int p = 0; p < 4; p++) {
            T.due("no DEBTS", x.two(p), 0);
        }
    }

    private static void twoRows() {
        T.says("each going its row: the fewest HOURS of the longer of both rows");
        OneCoin x = new OneCoin();
        x.person(0, 0, 0);
        x.person(1, 0, 9);
        x.person(2, 9, 9);
        x.person(3, 9, 0);
        Calls.debts(x, "a>b;b>c;c>d;d>a");
        x.coin(0);
        T.due("half of it each", x.two(2), 18);
        T.due("a quarter by one", x.two(1), 27);
        T.due("all by one", x.two(0), 36);
        Calls.debts(x, "a>b;a>d");
        T.due("both from a", x.two(0), 9);
        T.due("not from c", x.two(2), -4);
        T.due("not from b", x.two(1), -4);
        Calls.debts(x, "a>b;b>a;d>c");
        T.due("the longer of 18 and 9", x.two(3), 18);
        Calls.debts(x, "a>b;d>c;c>d");
        T.due("the longer of 9 and 18", x.two(3), 18);
    }

    private static void dry() {
        T.says("ODDS that of n DAYS (1 to 9) all are dry, what 0 above, 1 below the line, without a common divisor");
        int[] below = {1, 10, 5, 10, 5, 2, 5, 10, 5, 10, 1};
        int[] above = {1, 9, 4, 7, 3, 1, 2, 3, 1, 1, 0};
        for (int r = 0; r <= 10; r++) {
            OneCoin x = Calls.people(1);
            Calls.law(x, "r" + r + "(1=1)");
            int a = 1;
            int b = 1;
            for (int n = 1; n <= 9; n++) {
                a *= above[r];
                b *= below[r];
                T.due("above, r " + r + ", n " + n, x.dry(n, 0), a);
                T.due("below, r " + r + ", n " + n, x.dry(n, 1), b);
            }
        }
        T.says("n DAYS (1 to 9); NONE: no such ones");
        OneCoin x = Calls.people(1);
        for (int n : new int[] {0, -1, 10, Integer.MIN_VALUE, Integer.MAX_VALUE}) {
            T.due("dry(" + n + ", 0)", x.dry(n, 0), -1);
            T.due("dry(" + n + ", 1)", x.dry(n, 1), -1);
        }
        T.says("by r as it is now (t 0)");
        Calls.law(x, "ry(t=0)");
        x.hours(24 + 24 + 13);
        T.due("DAY 2, HOUR 13: above", x.dry(9, 0), 262144);
        T.due("DAY 2, HOUR 13: below", x.dry(9, 1), 1953125);
        T.due("no DRAW", x.tried(1, 5), 14);
    }

    private static void seed() {
        T.says("THE SEED (0 to 65535; X, too): true; false: no such number");
        OneCoin x = new OneCoin();
        for (int n : new int[] {0, 1, 65534, 65535}) {
            T.due("seed(" + n + ")", x.seed(n), true);
            T.due("X", x.count(11), n);
        }
        for (int n : new int[] {-1, 65536, 65537, Integer.MIN_VALUE, Integer.MAX_VALUE}) {
            T.due("seed(" + n + ")", x.seed(n), false);
            T.due("X stays", x.count(11), 65535);
        }
    }

    // ---- kept, checked, counted

    private static void keepAndUndo() {
        T.says("UNDONE: true; false: none was KEPT; as they were KEPT last");
        OneCoin x = Calls.people(3);
        T.due("none was KEPT", x.undo(), false);
        T.due("KEPT: coins owed in all", x.keep(), 0);
        x.debt(0, 1, 7);
        x.debt(1, 2, 5);
        x.coin(2);
        T.due("the first", x.undo(), true);
        T.due("no DEBTS", x.count(1), 0);
        T.due("nobody HOLDS it", x.count(2), -2);
        x.debt(0, 1, 7);
        x.coin(1);
        T.due("KEPT again", x.keep(), 7);
        x.debt(0, 1, 9);
        T.due("in place of the one before", x.keep(), 9);
        x.debt(0, 1, 1);
        for (int k = 0; k < 3; k++) {
            T.due("as they were KEPT last", x.undo(), true);
            T.due("DEBTS", x.count(1), 9);
            T.due("THE COIN", x.count(2), 1);
            x.hours(30);
            x.debt(0, 1, 2);
            x.coin(0);
        }
        T.says("KEPT: DEBTS, THE COIN, THE HOUR, THE DAY, rain, HELD, CHALK, X");
        x.undo();
        T.due("THE HOUR", x.count(5), 0);
        T.due("THE DAY", x.count(6), 0);
        T.due("HELD", x.longest(), -2);
        T.due("CHALK", x.count(8), 0);
        T.due("X", x.count(11), 1);
        Calls.law(x, "r10(1=1)");
        x.hours(1);
        x.keep();
        Calls.law(x, "s(1=1);s(1=1)");
        x.hours(24);
        x.person(7, 1, 2);
        x.seed(9);
        Calls.walk(x, "c");
        x.feed(0, 0, 0, 0, 0);
        T.due("dry", x.count(7), 0);
        x.undo();
        T.due("rainy as it was KEPT", x.count(7), 1);
        T.due("X", x.count(11), 39022);
        T.due("HELD", x.personIs(1, 4), 1);
        T.due("PEOPLE stay as they are", x.count(0), 7 | 128);
        T.due("a SPOT stays as it is", x.personIs(7, 1), 2);
        T.due("THE LAW stays as it is", x.count(9), 2);
        T.due("the tape stays as it is", x.count(10), 20);
    }

    private static void undoOnItsWay() {
        T.says("KEPT: THE COIN (on its WAY, too), CHALK");
        OneCoin x = Calls.holding(4, "a>d9;d>a9");
        Calls.law(x, "e1(1=1)");
        x.hours(11);
        x.keep();
        T.due("on its WAY to a", x.count(3), 0);
        T.due("two HOURS", x.count(4), 3);
        x.hours(240);
        x.undo();
        T.due("on its WAY to a", x.count(3), 0);
        T.due("two HOURS", x.count(4), 3);
        T.due("nobody HOLDS it", x.count(2), -2);
        T.dueRow("CHALK", Calls.chalkRow(x), 3);
        x.coin(1);
        x.undo();
        T.due("on its WAY to a again", x.count(3), 0);
        T.due("there", x.hours(3), 1);
        T.due("the DEBT for which it came", x.owes(3, 0), 8);
        T.due("the other one", x.owes(0, 3), 8);
        T.dueRow("CHALK", Calls.chalkRow(x), 3, 0);
    }

    private static void check() {
        T.says("CHECK by the first n bytes of the tape (0 to 10; empty then): NONE: right; else the first that is not so");
        OneCoin x = Calls.owing(3, "a>b3;c>a2");
        T.due("no byte", x.check(0), -1);
        Calls.feed(x, "\3\0\2\0\0\0\0\0\0\0\0");
        T.due("ten", x.check(10), -1);
        T.due("empty then", x.count(10), 0);
        for (int p = 0; p < 10; p++) {
            StringBuilder text = new StringBuilder("\3\0\2\0\0\0\0\0\0\0");
            text.setCharAt(p, (char) (text.charAt(p) + 1));
            Calls.feed(x, text.toString());
            T.due("not so: " + p, x.check(10), p);
            T.due("empty then", x.count(10), 0);
            Calls.feed(x, text.toString());
            T.due("not asked: " + p, x.check(p), -1);
            Calls.feed(x, text.toString());
            T.due("asked alone or last: " + p, x.check(p + 1), p);
        }
        Calls.feed(x, "\4\1\3\1");
        T.due("the first of all", x.check(4), 0);
        T.says("-2: no such n, it has not so many (the tape stays)");
        for (int n : new int[] {-1, 1, 10, 11, Integer.MIN_VALUE, Integer.MAX_VALUE}) {
            T.due("check(" + n + ") of none", x.check(n), -2);
        }
        Calls.feed(x, "\3\0\2");
        for (int n : new int[] {-1, 11, 20, 21, Integer.MIN_VALUE, Integer.MAX_VALUE}) {
            T.due("check(" + n + ")", x.check(n), -2);
            T.due("the tape stays", x.count(10), 20);
        }
        T.due("check(3)", x.check(3), -1);
        Calls.feed(x, "\3\0\2");
        T.due("check(0)", x.check(0), -1);
        T.due("empty then", x.count(10), 0);
    }

    private static void checkMany() {
        T.says("255 for 255 and more; (of PEOPLE that are not told 0)");
        int[] owed = {0, 1, 127, 128, 253, 254, 255, 256, 257, 511, 512, 792};
        for (int n : owed) {
            OneCoin x = Calls.people(9);
            int left = n;
            for (int b = 1; b < 9; b++) {
                x.debt(0, b, Math.min(99, left));
                left -= Math.min(99, left);
            }
            T.due("owes", x.personIs(0, 2), n);
            Calls.feed(x, "" + (char) Math.min(255, n));
            T.due("told right: " + n, x.check(1), -1);
            Calls.feed(x, "" + (char) Math.min(255, n + 1));
            T.due("told one more: " + n, x.check(1), n >= 255 ? -1 : 0);
            Calls.feed(x, "" + (char) (Math.min(255, n) == 0 ? 255 : Math.min(255, n) - 1));
            T.due("told less: " + n, x.check(1), 0);
            Calls.feed(x, "" + (char) Math.min(255, n) + "\0\0\0\0\0\0\0\0\0");
            T.due("j is not told: 0", x.check(10), -1);
            Calls.feed(x, "" + (char) Math.min(255, n) + "\0\0\0\0\0\0\0\0\1");
            T.due("j is not told: 1", x.check(10), 9);
        }
    }

    private static void counts() {
        T.says("count: what 0 to 11. NONE for others");
        OneCoin x = new OneCoin();
        for (int what : new int[] {-1, 12, 100, Integer.MIN_VALUE, Integer.MAX_VALUE}) {
            T.due("count(" + what + ")", x.count(what), -1);
        }
        T.says("A new object: No PEOPLE, DEBTS, LAW; THE COIN nowhere; THE SEED 1");
        int[] want = {0, 0, -2, -2, 0, 0, 0, 0, 0, 0, 0, 1};
        for (int what = 0; what < want.length; what++) {
            T.due("count(" + what + ")", x.count(what), want[what]);
        }
        for (int p = 0; p < 10; p++) {
            x.person(p, 9, 0);
            x.debt(p, (p + 1) % 10, 9);
        }
        T.due("owed by j to a, for a was told", x.owes(9, 0), 9);
        T.due("all but those to one not yet told", x.count(1), 9);
        for (int a = 0; a < 10; a++) {
            for (int b = 0; b < 10; b++) {
                x.debt(a, b, 99);
            }
        }
        T.due("the most coins", x.count(1), 90 * 99);
        T.due("the most coins KEPT", x.keep(), 8910);
        T.due("the most coins tried", x.tried(1, 1), 8910);
        T.due("all PEOPLE", x.count(0), 1023);
    }

    private static void ownMemory() {
        T.says("All memory is the duchy's own");
        OneCoin x = Calls.people(3);
        OneCoin y = new OneCoin();
        Calls.debts(x, "a>b5");
        Calls.law(x, "e5(1=1)");
        x.coin(0);
        x.keep();
        x.feed(1, 1, 1, 1, 1);
        T.due("no PEOPLE", y.count(0), 0);
        T.due("no DEBTS", y.count(1), 0);
        T.due("no COIN", y.count(2), -2);
        T.due("no LAW", y.count(9), 0);
        T.due("no tape", y.count(10), 0);
        T.due("none KEPT", y.undo(), false);
        y.person(0, 9, 9);
        y.person(1, 9, 9);
        Calls.law(y, "s(1=1)");
        y.debt(0, 1, 1);
        y.coin(1);
        y.seed(7);
        y.keep();
        y.hours(30);
        T.due("its SPOT", x.personIs(0, 0), 0);
        T.due("its DEBTS", x.count(1), 5);
        T.due("its LAW", x.likes(0, 1), 5);
        T.due("its COIN", x.count(2), 0);
        T.due("its X", x.count(11), 1);
        T.due("its HOUR", x.count(5), 0);
        T.due("its tape", x.count(10), 20);
        x.debt(0, 1, 6);
        x.undo();
        T.due("as it KEPT itself", x.count(1), 5);
    }

    private static void manyCalls() {
        T.says("An object is used for at most 512 calls after it has been made");
        OneCoin x = new OneCoin();
        x.person(0, 0, 0);
        x.person(1, 0, 1);
        x.coin(0);
        for (int k = 3; k < 509; k++) {
            x.hours(240);
        }
        T.due("HELD, the 510th call", x.personIs(0, 4), 506 * 240);
        T.due("THE DAY, the 511th call", x.count(6), 5060);
        T.due("who HELD it longest, the 512th call", x.longest(), 0);
    }
}
