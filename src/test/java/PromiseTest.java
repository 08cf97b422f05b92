/** For each promise at least one test: ordinary inputs, the edges that the document names, wrong inputs. */
public final class PromiseTest {
    private static final Calls T = new Calls("PromiseTest");

    public static void main(String[] args) {
        p01NewObject();
        p02Person();
        p03Debt();
        p04Coin();
        p05Feed();
        p06LawFaults();
        p06LawAnswers();
        p07Debts();
        p08Hours();
        p08DebtGoneOnTheWay();
        p09Tried();
        p10PersonIs();
        p11Owes();
        p12Likes();
        p12LikesByConditions();
        p12Refused();
        p13Route();
        p13RouteFaults();
        p14Walk();
        p15Tour();
        p15TourLimits();
        p16Most();
        p17Back();
        p18Even();
        p19Turned();
        p20SetOff();
        p21Fewest();
        p22Rings();
        p23Off();
        p24When();
        p25Wedding();
        p26Longest();
        p27Chalk();
        p28Two();
        p29Dry();
        p30Seed();
        p31Keep();
        p32Undo();
        p33Check();
        p34Count();
        T.end();
    }

    private static void p01NewObject() {
        OneCoin x = new OneCoin();
        int[] want = {0, 0, -2, -2, 0, 0, 0, 0, 0, 0, 0, 1};
        for (int what = 0; what < want.length; what++) {
            T.due("new: count(" + what + ")", x.count(what), want[what]);
        }
        T.due("NONE", OneCoin.NONE, -1);
        T.due("new: owes", x.owes(0, 1), -1);
        T.due("new: fewest", x.fewest(), 0);
        T.due("new: rings", x.rings(100), 0);
        T.due("new: longest", x.longest(), -2);
        T.due("new: undo", x.undo(), false);
    }

    private static void p02Person() {
        OneCoin x = new OneCoin();
        T.due("person(0, 0, 0)", x.person(0, 0, 0), true);
        T.due("person(9, 9, 9)", x.person(9, 9, 9), true);
        T.due("person(-1, 0, 0)", x.person(-1, 0, 0), false);
        T.due("person(10, 0, 0)", x.person(10, 0, 0), false);
        T.due("person(1, -1, 0)", x.person(1, -1, 0), false);
        T.due("person(1, 0, -1)", x.person(1, 0, -1), false);
        T.due("person(1, 10, 0)", x.person(1, 10, 0), false);
        T.due("person(1, 0, 10)", x.person(1, 0, 10), false);
        T.due("told", x.count(0), 1 | 1 << 9);
        x.debt(0, 9, 7);
        T.due("person again", x.person(0, 4, 5), true);
        T.due("its x", x.personIs(0, 0), 4);
        T.due("its y", x.personIs(0, 1), 5);
        T.due("its DEBTS stay", x.owes(0, 9), 7);
    }

    private static void p03Debt() {
        OneCoin x = Calls.people(3);
        T.due("debt(0, 1, 99)", x.debt(0, 1, 99), true);
        T.due("debt(0, 1, 5)", x.debt(0, 1, 5), true);
        T.due("in place of the one before", x.owes(0, 1), 5);
        T.due("debt(1, 0, 0)", x.debt(1, 0, 0), true);
        T.due("debt to itself", x.debt(1, 1, 1), false);
        T.due("debt of 100", x.debt(0, 1, 100), false);
        T.due("debt of -1", x.debt(0, 1, -1), false);
        T.due("debt to one not told", x.debt(0, 3, 1), false);
        T.due("debt of one not told", x.debt(3, 0, 1), false);
        T.due("debt(-1, 0, 1)", x.debt(-1, 0, 1), false);
        T.due("debt(0, 10, 1)", x.debt(0, 10, 1), false);
        T.due("nothing else is owed", x.count(1), 5);
    }

    private static void p04Coin() {
        OneCoin x = Calls.owing(3, "a>c");
        T.due("coin(3)", x.coin(3), false);
        T.due("coin(-1)", x.coin(-1), false);
        T.due("still nowhere", x.count(2), -2);
        T.due("coin(0)", x.coin(0), true);
        T.due("held", x.count(2), 0);
        T.due("no CHALK", x.count(8), 0);
        Calls.law(x, "e1(1=1)");
        x.hours(7);
        T.due("on its WAY", x.count(3), 2);
        T.due("coin(1) off its WAY", x.coin(1), true);
        T.due("held", x.count(2), 1);
        T.due("not on its WAY", x.count(3), -2);
        T.due("no HOURS still", x.count(4), 0);
        x.hours(5);
        T.due("nothing was paid", x.owes(0, 2), 1);
    }

    private static void p05Feed() {
        OneCoin x = Calls.people(2);
        T.due("feed", x.feed(0x613e6235, 0, 0, 0, -1), 20);
        T.due("the highest byte first", x.debts(4), 5);
        for (int k = 1; k <= 13; k++) {
            T.due("feed " + k, x.feed(0, 0, 0, 0, 0), 20 * k);
        }
        T.due("feed 14", x.feed(0, 0, 0, 0, 0), -1);
        T.due("as many as before", x.count(10), 260);
        x.check(0);
        T.due("feed 0xffffffff", x.feed(-1, -1, -1, -1, -1), 20);
        T.due("a byte of 255", x.debts(1), -1000);
    }

    private static void p06LawFaults() {
        OneCoin x = Calls.people(2);
        Calls.law(x, "e3(1=1)");
        String[] texts = {"e", "e1", "e1(", "e1(1", "e1(1=", "e1(1=1", "e1(1=1);", "E1(1=1)", "e 1(1=1)", "e1(1=1) ",
            "e(1=1)", "s1(1=1)", "e-1(1=1)", "e[1(1=1)", "e1](1=1)", "e[](1=1)", "e1(1=1=1)", "e1(1)", "e1()", "e1((1=1)",
            "e1(!)", "e1(1=1&)", "e1(1=1|)", "e1(1=1!2=2)", "e1(1+=1)", "e1(1=1);;e1(1=1)", "e1(1=1)e1(1=1)",
            "e1(a=1)", "e1(1=(1))", "e12345(1=1)", "e00000(1=1)", "ehh(1=1)", "e1h(1=1)", "e1(!!1=1)"};
        int[] want = {-1001, -1002, -1003, -1004, -1005, -1006, -1008, -1000, -1001, -1007,
            -1001, -1001, -1001, -1003, -1002, -1002, -1006, -1004, -1003, -1008,
            -1004, -1007, -1007, -1006, -1005, -1008, -1007,
            -1003, -1005, 1, 1, -1002, -1002, 1};
        for (int k = 0; k < texts.length; k++) {
            T.due("law " + texts[k], Calls.law(x, texts[k]), want[k]);
            T.due("the tape is empty", x.count(10), 0);
        }
        T.due("a sixth digit", Calls.law(x, "e1(1=000000)"), -2010);
        T.due("a FAULT ahead of it", Calls.law(x, "e1(a=000000)"), -1003);
        T.due("seven [", Calls.law(x, "e[[[[[[[1]]]]]]](1=1)"), -5007);
        T.due("six [", Calls.law(x, "e[[[[[[1]]]]]](1=1)"), 1);
        T.due("six [ in C", Calls.law(x, "e1([[[[[[1]]]]]]=1)"), -5008);
        T.due("five [ in C", Calls.law(x, "e1([[[[[1]]]]]=1)"), 1);
        T.due("six ( or !", Calls.law(x, "e1(!(!(!(1=1))))"), -5008);
        T.due("six !", Calls.law(x, "e1(!!!!!!1=1)"), -5008);
        T.due("five !", Calls.law(x, "e1(!!!!!1=1)"), 1);
        T.due("five ! and [ behind =", Calls.law(x, "e1(!!!!!1=[1])"), -5010);
        T.due("a ! is open till its TEST ends", Calls.law(x, "e1(!!!!!1=1&[1]=1|!!!!!1=1)"), 1);
        T.due("a ( closed is open no more", Calls.law(x, "e1((((((1=1)))))&(((((1=1))))))"), 1);
        T.due("a ( where only a [ can stand", Calls.law(x, "e1(1=(((((((1))"), -1005);
    }

    private static void p06LawAnswers() {
        OneCoin x = Calls.people(2);
        StringBuilder text = new StringBuilder("s(1=1)");
        for (int k = 1; k < 16; k++) {
            text.append(";e1(1=1)");
        }
        T.due("16 RULES", Calls.law(x, text.toString()), 16);
        T.due("count(9)", x.count(9), 16);
        T.due("a 17th RULE", Calls.law(x, text + ";r1(1=1)"), -4000 - text.length() - 1);
        T.due("no 17th RULE", Calls.law(x, text + ";h1(1=1)"), -1000 - text.length() - 1);
        T.due("the end behind the 16th", Calls.law(x, text + ";"), -1000 - text.length() - 1);
        T.due("the one before stays", x.count(9), 16);
        T.due("it has not so many", x.law(1), -1);
        Calls.feed(x, "e1(1=1)");
        T.due("law(0)", x.law(0), -1);
        T.due("law(-1)", x.law(-1), -1);
        T.due("law(21)", x.law(21), -1);
        T.due("the tape stays", x.count(10), 20);
        for (int k = 0; k < 12; k++) {
            x.feed(0, 0, 0, 0, 0);
        }
        T.due("law(241)", x.law(241), -1);
        T.due("the tape stays", x.count(10), 260);
        T.due("law(7)", x.law(7), 1);
        T.due("the tape is empty", x.count(10), 0);
        T.due("in place of the one before", x.count(9), 1);
        StringBuilder full = new StringBuilder("e1(1=1");
        for (int k = 0; k < 58; k++) {
            full.append("|1=1");
        }
        T.due("240 bytes", Calls.law(x, full + "+)"), -1239);
        T.due("240 good bytes", Calls.law(x, full.substring(0, 234) + "|11=1)"), 1);
    }

    private static void p07Debts() {
        OneCoin x = Calls.people(3);
        T.due("debts", Calls.debts(x, "a>b;b>c2;c>a99"), 102);
        T.due("a>b", x.owes(0, 1), 1);
        T.due("in place of all before", Calls.debts(x, "a>b01"), 1);
        T.due("c>a is gone", x.owes(2, 0), 0);
        T.due("added up", Calls.debts(x, "a>b3;b>a;a>b4"), 8);
        T.due("99 at most", Calls.debts(x, "a>b60;a>b60"), 99);
        String[] texts = {"a", "a>", "a>b;", "a>b1;", "k>a", "a>k", "d>a", "a>d", "a>a", "d>d", "a<b", "a>b0", "a>b00",
            "a>b0x", "a>b0;", "a>b001", "a>b100", "a>b x", "A>b", "a>b;;a>b", "a>bb"};
        int[] want = {-1001, -1002, -1004, -1005, -1000, -1002, -7000, -7002, -6002, -7000, -1001, -3003, -3003,
            -3003, -3003, -3003, -1005, -1003, -1000, -1004, -1003};
        for (int k = 0; k < texts.length; k++) {
            T.due("debts " + texts[k], Calls.debts(x, texts[k]), want[k]);
            T.due("the tape is empty", x.count(10), 0);
        }
        T.due("they stay", x.owes(0, 1), 99);
        StringBuilder lines = new StringBuilder("a>b");
        for (int k = 1; k < 30; k++) {
            lines.append(";b>c");
        }
        T.due("30 LINES", Calls.debts(x, lines.toString()), 30);
        T.due("31 LINES", Calls.debts(x, lines + ";a>b"), -4120);
        T.due("31 LINES, not told", Calls.debts(x, lines + ";j>b"), -4120);
        T.due("no letter", Calls.debts(x, lines + ";>"), -1120);
        T.due("the end", Calls.debts(x, lines + ";"), -1120);
        Calls.feed(x, "a>b");
        T.due("debts(0)", x.debts(0), -1);
        T.due("debts(-5)", x.debts(-5), -1);
        T.due("debts(21)", x.debts(21), -1);
        T.due("the tape stays", x.count(10), 20);
        for (int k = 0; k < 8; k++) {
            x.feed(0, 0, 0, 0, 0);
        }
        T.due("debts(161)", x.debts(161), -1);
        T.due("debts(160)", x.debts(160), -1003);
    }

    private static void p08Hours() {
        OneCoin x = Calls.owing(3, "a>b2;b>c;c>a");
        T.due("hours(0)", x.hours(0), -1);
        T.due("hours(-1)", x.hours(-1), -1);
        T.due("hours(241)", x.hours(241), -1);
        T.due("no HOUR went by", x.count(5), 0);
        x.coin(0);
        T.due("without a LAW nobody is paid", x.hours(24), 0);
        T.due("THE DAY", x.count(6), 1);
        T.due("a DRAW in THE DAY", x.count(11), 39022);
        Calls.law(x, "e1(1=1)");
        T.due("till HOUR 6", x.hours(6), 0);
        T.due("HELD", x.personIs(0, 4), 30);
        T.due("it sets out at 6", x.hours(1), 0);
        T.due("HELD at 6, too", x.personIs(0, 4), 31);
        T.due("an HOUR still", x.count(4), 1);
        T.due("it is there at 7", x.hours(1), 1);
        T.due("b HOLDS it", x.count(2), 1);
        T.due("not HELD when it comes", x.personIs(1, 4), 0);
        T.due("8 b sets out, 9 at c; 10 c sets out, 12 at a; 13, 14 at b", x.hours(7), 3);
        T.due("all is paid", x.count(1), 0);
        T.due("CHALK", x.count(8), 4);
        OneCoin late = Calls.owing(2, "a>b9");
        Calls.law(late, "e1(1=1)");
        late.hours(19);
        late.coin(0);
        T.due("19 is not too late", late.hours(2), 1);
        late.coin(0);
        T.due("21 is", late.hours(9), 0);
        T.due("6 is not", late.hours(2), 1);
        OneCoin twenty = Calls.owing(2, "a>b9");
        Calls.law(twenty, "e1(1=1)");
        twenty.hours(20);
        twenty.coin(0);
        T.due("20 is too late", twenty.hours(10), 0);
        T.due("240 HOURS", twenty.hours(240), 1);
        T.due("are ten DAYS", twenty.count(6), 11);
    }

    private static void p08DebtGoneOnTheWay() {
        OneCoin x = Calls.owing(3, "a>c;b>c");
        Calls.law(x, "e1(1=1)");
        x.coin(0);
        x.hours(7);
        x.debt(0, 2, 0);
        T.due("it comes all the same", x.hours(2), 1);
        T.due("a DEBT is not below 0", x.owes(0, 2), 0);
        T.due("no other is less", x.owes(1, 2), 1);
        T.due("c HOLDS it", x.count(2), 2);
    }

    private static void p09Tried() {
        OneCoin x = Calls.owing(3, "a>b2;b>c97");
        Calls.law(x, "r10(y=0);e1(1=1);i3(h=1)");
        x.coin(0);
        T.due("PAYINGS on a rainy DAY", x.tried(24, 0), 0);
        T.due("PAYINGS on the second DAY", x.tried(32, 0), 1);
        T.due("coins owed then", x.tried(32, 1), 100);
        T.due("who HOLDS it", x.tried(31, 2), -2);
        T.due("who HOLDS it then", x.tried(32, 2), 1);
        T.due("rainy DAYS", x.tried(25, 3), 1);
        T.due("interest, 99 at most: 2, and 1 when c was paid 1", x.tried(240, 4), 3);
        T.due("THE HOUR", x.tried(25, 5), 1);
        T.due("HELD by a", x.tried(32, 10), 31);
        T.due("HELD by c", x.tried(32, 12), 0);
        T.due("not told", x.tried(32, 13), -1);
        T.due("no such what", x.tried(1, 6), -1);
        T.due("no such what", x.tried(1, 9), -1);
        T.due("no such what", x.tried(1, -1), -1);
        T.due("no such what", x.tried(1, 20), -1);
        T.due("no such n", x.tried(0, 0), -1);
        T.due("no such n", x.tried(241, 0), -1);
        T.due("nothing goes by", x.count(5), 0);
        T.due("no DRAW", x.count(11), 1);
        x.hours(3);
        T.due("HELD in them alone", x.tried(2, 10), 2);
        OneCoin grown = Calls.owing(3, "a>b2;a>c3;b>c");
        Calls.law(grown, "i10(n<3);i0-1(h=1);i[o-11]/[n-3]+o(1=1)");
        T.due("interest, 9 at most", grown.tried(1, 4), 9 + 9);
        Calls.law(grown, "i10(n<2);i0-1(n>2);i[o-1](1=1)");
        T.due("interest, 0 at least, o as it is then", grown.tried(1, 4), 4 + 9);
        Calls.law(grown, "i7(n=2&o=5);i1(n=3&o=12)");
        T.due("o has grown before the next DEBT", grown.tried(1, 4), 7 + 1);
    }

    private static void p10PersonIs() {
        OneCoin x = Calls.owing(3, "a>b2;a>c3;c>b4;b>a");
        x.coin(0);
        Calls.walk(x, "ba");
        x.hours(5);
        int[] want = {0, 0, 4, 0, 5, 1};
        for (int what = 0; what < want.length; what++) {
            T.due("personIs(0, " + what + ")", x.personIs(0, what), want[what]);
        }
        T.due("c x", x.personIs(2, 0), 2);
        T.due("c gets", x.personIs(2, 3), 3);
        T.due("b gets", x.personIs(1, 3), 5);
        T.due("b CHALKED", x.personIs(1, 5), 1);
        T.due("no such what", x.personIs(0, 6), -1);
        T.due("no such what", x.personIs(0, -1), -1);
        T.due("not told", x.personIs(3, 0), -1);
        T.due("no such one", x.personIs(10, 0), -1);
        T.due("no such one", x.personIs(-1, 0), -1);
    }

    private static void p11Owes() {
        OneCoin x = Calls.owing(3, "a>b2");
        T.due("owes(0, 1)", x.owes(0, 1), 2);
        T.due("owes(1, 0)", x.owes(1, 0), 0);
        T.due("owes(0, 0)", x.owes(0, 0), -1);
        T.due("owes(0, 3)", x.owes(0, 3), -1);
        T.due("owes(3, 0)", x.owes(3, 0), -1);
        T.due("owes(-1, 0)", x.owes(-1, 0), -1);
        T.due("owes(0, 10)", x.owes(0, 10), -1);
    }

    private static void p12Likes() {
        OneCoin x = Calls.owing(4, "a>b2;a>d3;b>a");
        String[] numbers = {"h", "c", "n", "o", "w", "g", "t", "y", "7-2-1", "7-2*3", "2+3*4", "9/2*2", "[2+3]*4", "17%5",
            "2*[3+[4-1]]", "99999", "1-2", "99999*99999", "[0-7]/2+9", "[0-7]%4+9", "65536*32768/[0-1]/99999"};
        int[] want = {0, 3, 3, 5, 3, 0, 0, 0, 4, 1, 14, 8, 20, 2, 12, 9999, 0, 9999, 6, 6, 0};
        for (int k = 0; k < numbers.length; k++) {
            Calls.law(x, "e" + numbers[k] + "(1=1)");
            T.due("likes by " + numbers[k], x.likes(0, 3), want[k]);
        }
        Calls.law(x, "e1+100*t+10*g+1000*y(1=1)");
        x.coin(0);
        Calls.walk(x, "ba");
        x.coin(2);
        x.hours(26);
        T.due("by CHALK, THE HOUR, THE DAY", x.likes(3, 1), 1211);
        Calls.law(x, "e5(1=1);s(c=1)");
        T.due("0 if s", x.likes(0, 1), 0);
        T.due("5 if not", x.likes(0, 2), 5);
        T.due("to itself", x.likes(0, 0), -1);
        T.due("not told", x.likes(0, 4), -1);
        T.due("not told", x.likes(4, 0), -1);
        T.due("no such one", x.likes(0, -1), -1);
    }

    private static void p12LikesByConditions() {
        OneCoin x = Calls.people(3);
        String[] holds = {"1<2", "2>1", "2=2", "!1>2", "1=2|2=2", "1=1&2=2", "!(1=1&1=2)", "(1=2|2=2)&3=3", "1=1|1=2&1=2",
            "!!1=1", "!1=2&1=1", "1=2&1=1|1=1", "1=2|1=2|1=1", "1+1=2*1", "[1]=[1]", "!(1=2|1=2)&!(!1=1)"};
        for (String c : holds) {
            Calls.law(x, "e3(" + c + ")");
            T.due("holds: " + c, x.likes(0, 1), 3);
        }
        String[] fails = {"1>2", "2<1", "1=2", "!1=1", "1=2|2=3", "1=1&2=3", "(1=2|2=2)&3=4", "1=2&1=1|1=2", "!(1=1|1=2)",
            "1=1&1=1&1=2", "!1=1|1=2"};
        for (String c : fails) {
            Calls.law(x, "e3(" + c + ")");
            T.due("does not hold: " + c, x.likes(0, 1), 0);
        }
        Calls.law(x, "e1(c=1);e2(c=2);e9(1=1)");
        T.due("the first RULE", x.likes(0, 1), 1);
        T.due("the second RULE", x.likes(0, 2), 2);
        T.due("the third RULE", x.likes(1, 0), 9);
    }

    private static void p12Refused() {
        OneCoin x = Calls.people(3);
        String[] refused = {"1/0=0", "1%0=0", "!1/0=0", "1/0=0|1=1", "!(1/0=1)", "1=2|1/0=0|1=1", "1=1&1/0=0|1=1",
            "!(1=2|1%0=1)|1=1", "0=1/0"};
        for (String c : refused) {
            Calls.law(x, "e3(" + c + ");e4(1=1)");
            T.due("refused: " + c, x.likes(0, 1), 4);
        }
        String[] notAsked = {"1=1|1/0=0", "!(1=2&1/0=0)", "1=2&1/0=0|1=1", "1=1|1=2&1/0=0", "(1=1|1/0=0)&1=1"};
        for (String c : notAsked) {
            Calls.law(x, "e3(" + c + ");e4(1=1)");
            T.due("not asked: " + c, x.likes(0, 1), 3);
        }
        Calls.law(x, "e5+1/0(1=1);e4(1=1)");
        T.due("an E is 0", x.likes(0, 1), 0);
        Calls.law(x, "e5(1=1);s(1/0=0)");
        T.due("an s that is refused", x.likes(0, 1), 5);
    }

    private static void p13Route() {
        OneCoin x = Calls.owing(4, "a>b3;b>a2;a>d;d>b");
        T.due("nobody HOLDS it", Calls.route(x, "b", 0), -2);
        T.due("the FAULT first", Calls.route(x, "k", 0), -1000);
        T.due("the tape is empty", x.count(10), 0);
        x.coin(0);
        T.due("PAYINGS", Calls.route(x, "2(ba)db", 0), 6);
        T.due("HOURS", Calls.route(x, "2(ba)db", 1), 1 + 1 + 1 + 1 + 3 + 2);
        T.due("who HOLDS it then", Calls.route(x, "2(ba)db", 2), 1);
        T.due("as far as one owes", Calls.route(x, "9(ba)", 0), 5);
        T.due("one not told", Calls.route(x, "bj", 0), 1);
        T.due("to oneself", Calls.route(x, "a", 0), 0);
        T.due("nothing, by a", Calls.route(x, "c", 2), 0);
        T.due("nothing, no HOURS", Calls.route(x, "c", 1), 0);
        T.due("nothing is done", x.owes(0, 1), 3);
        Calls.feed(x, "b");
        T.due("no such what", x.route(1, 3), -1);
        T.due("no such what", x.route(1, -1), -1);
        T.due("no such n", x.route(0, 0), -1);
        T.due("not so many", x.route(21, 0), -1);
        T.due("the tape stays", x.count(10), 20);
        for (int k = 0; k < 3; k++) {
            x.feed(0, 0, 0, 0, 0);
        }
        T.due("no such n", x.route(61, 0), -1);
        T.due("60 bytes", x.route(60, 0), -1020);
    }

    private static void p13RouteFaults() {
        OneCoin x = Calls.people(2);
        x.coin(0);
        String[] texts = {"k", "1a", "0a", "2", "22a", "2(", "()", "(a", "a)", "((a))", "(((a)))", "((2(a)))", "2(3(2(a)))",
            "7(9a)", "6(9a)6a", "6(9a)7a", "6(9a)(7a)", "9(9(9a))", "2(5(7a))", "2(5a7(9a))", "9(7a", "7(9ax", "6(9a)7ax",
            "6(9a)(6aa)", "7(9a)(((", "(9a)(9b)", " a", "a b"};
        int[] want = {-1000, -1000, -1000, -1001, -1001, -1002, -1001, -1002, -1001, 0, -5002, -5003, -5005,
            -6000, 0, -6005, -6006, -6002, -6000, -6004, -1004, -1004, -6005,
            -6008, -6000, 0, -1000, -1001};
        for (int k = 0; k < texts.length; k++) {
            T.due("route " + texts[k], Calls.route(x, texts[k], 0), want[k]);
            T.due("the tape is empty", x.count(10), 0);
        }
        String sixty = "a".repeat(60);
        T.due("60 letters", Calls.route(x, sixty, 0), 0);
    }

    private static void p14Walk() {
        OneCoin x = Calls.owing(3, "a>b3;b>a2;a>c");
        T.due("nobody HOLDS it", Calls.walk(x, "b"), -2);
        T.due("the FAULT first", Calls.walk(x, "(b"), -1002);
        x.coin(0);
        x.hours(2);
        T.due("walk", Calls.walk(x, "2(ba)ca"), 5);
        T.due("DEBTS are less", x.owes(0, 1), 1);
        T.due("DEBTS are less", x.owes(1, 0), 0);
        T.due("who was last HOLDS it", x.count(2), 2);
        T.dueRow("all are CHALKED", Calls.chalkRow(x), 1, 0, 1, 0, 2);
        T.due("THE HOUR", x.count(5), 2);
        T.due("HELD", x.personIs(0, 4), 2);
        T.due("HELD", x.personIs(2, 4), 0);
        T.due("nobody is paid", Calls.walk(x, "a"), 0);
        T.due("c HOLDS it still", x.count(2), 2);
        T.due("walk(0)", x.walk(0), -1);
        T.due("walk(1)", x.walk(1), -1);
        Calls.feed(x, "a".repeat(61));
        T.due("walk(61)", x.walk(61), -1);
        T.due("the tape stays", x.count(10), 80);
        T.due("walk(60)", x.walk(60), 0);
        T.due("the tape is empty", x.count(10), 0);
    }

    private static void p15Tour() {
        OneCoin x = Calls.owing(4, "a>b2;b>a;b>c;c>a");
        T.due("nobody HOLDS it", x.tour(100), -2);
        T.due("no such what first", x.tour(103), -1);
        x.coin(0);
        T.dueRow("the least row", Calls.tourRow(x), 1, 0, 1, 2, 0);
        T.due("comes home", x.tour(102), 1);
        T.due("no such place", x.tour(5), -4);
        T.due("no such what", x.tour(-1), -1);
        T.due("no such what", x.tour(60), -1);
        T.due("no place", x.tour(59), -4);
        x.coin(3);
        T.due("can't be from d", x.tour(100), 0);
        T.due("how many all the same", x.tour(101), 5);
        T.due("home", x.tour(102), -4);
        T.due("place", x.tour(0), -4);
        x.debt(3, 0, 1);
        T.dueRow("from d", Calls.tourRow(x), 0, 1, 0, 1, 2, 0);
        T.due("not home", x.tour(102), 0);
        x.coin(0);
        T.due("can't be from a", x.tour(100), 0);
        OneCoin none = Calls.people(2);
        none.coin(1);
        T.due("no DEBTS", none.tour(100), 1);
        T.due("no DEBTS: how many", none.tour(101), 0);
        T.due("no DEBTS: home", none.tour(102), 1);
        T.due("no DEBTS: place", none.tour(0), -4);
        OneCoin apart = Calls.owing(4, "a>b;b>a;c>d;d>c");
        apart.coin(0);
        T.due("two rings apart", apart.tour(100), 0);
    }

    private static void p15TourLimits() {
        OneCoin x = Calls.owing(2, "a>b30;b>a30");
        x.coin(0);
        T.due("60 can be", x.tour(100), 1);
        T.due("60", x.tour(101), 60);
        T.due("the last place", x.tour(59), 0);
        T.due("the last but one", x.tour(58), 1);
        x.debt(0, 1, 31);
        for (int what = 100; what <= 102; what++) {
            T.due("more than 60: " + what, x.tour(what), -3);
        }
        T.due("more than 60: a place", x.tour(0), -3);
        T.due("more than 60: no such what", x.tour(-5), -1);
        OneCoin later = Calls.owing(4, "a>c;c>a;a>b;b>d");
        later.coin(0);
        T.dueRow("b can't be first", Calls.tourRow(later), 2, 0, 1, 3);
    }

    private static void p16Most() {
        OneCoin x = Calls.owing(5, "a>b;a>c;c>d;b>e;e>a");
        T.due("nobody HOLDS it", x.most(100), -2);
        T.due("no such what first", x.most(12), -1);
        x.coin(0);
        T.dueRow("the most", Calls.mostRow(x), 1, 4, 0, 2, 3);
        T.due("no such place", x.most(5), -4);
        T.due("no such place", x.most(11), -4);
        T.due("no such what", x.most(12), -1);
        T.due("no such what", x.most(-1), -1);
        T.due("no such what", x.most(101), -1);
        x.coin(3);
        T.due("nothing from d", x.most(100), 0);
        T.due("nothing from d", x.most(0), -4);
        x.coin(0);
        x.debt(0, 4, 5);
        x.debt(0, 3, 2);
        T.due("12", x.most(100), 5);
        x.debt(4, 3, 1);
        T.due("more than 12", x.most(100), -3);
        T.due("more than 12", x.most(0), -3);
        T.due("more than 12, no such what", x.most(99), -1);
        OneCoin like = Calls.owing(4, "a>d;a>c;a>b");
        like.coin(0);
        T.dueRow("of like ones the least", Calls.mostRow(like), 1);
        OneCoin longer = Calls.owing(4, "a>b;a>c;c>d");
        longer.coin(0);
        T.dueRow("a longer one, not the least", Calls.mostRow(longer), 2, 3);
    }

    private static void p17Back() {
        OneCoin x = Calls.people(4);
        x.person(3, 9, 9);
        Calls.debts(x, "a>d;d>a;a>b9;b>c;c>a");
        T.due("PAYINGS", x.back(0, 0), 2);
        T.due("HOURS, by another row", x.back(0, 1), 1 + 1 + 2);
        T.due("b, PAYINGS", x.back(1, 0), 3);
        T.due("d, HOURS", x.back(3, 1), 36);
        x.debt(2, 0, 0);
        T.due("b does not come back", x.back(1, 0), -2);
        T.due("b does not come back", x.back(1, 1), -2);
        T.due("no such what", x.back(0, 2), -1);
        T.due("no such what", x.back(0, -1), -1);
        T.due("not told", x.back(4, 0), -1);
        T.due("no such one", x.back(-1, 0), -1);
    }

    private static void p18Even() {
        OneCoin x = Calls.owing(4, "a>c;b>d;a>d");
        // c gets 1, d gets 2 more than they pay; a pays 2, b 1 more than they get
        T.due("how many", x.even(100), 3);
        T.due("HOURS", x.even(101), 2 + 3 + 2);
        T.dueRow("the least row", Calls.evenRow(x), 0, 0, 1);
        T.due("no such place", x.even(3), -4);
        T.due("no such place", x.even(5), -4);
        T.due("no such what", x.even(6), -1);
        T.due("no such what", x.even(-1), -1);
        T.due("no such what", x.even(102), -1);
        OneCoin far = new OneCoin();
        far.person(0, 9, 9);
        far.person(1, 0, 0);
        far.person(2, 0, 1);
        far.person(3, 9, 8);
        Calls.debts(far, "a>c;b>d");
        T.due("HOURS of the nearest", far.even(101), 2);
        T.dueRow("the nearest", Calls.evenRow(far), 1, 0);
        OneCoin many = Calls.owing(2, "a>b6");
        T.dueRow("6 new ones", Calls.evenRow(many), 0, 0, 0, 0, 0, 0);
        many.debt(0, 1, 7);
        T.due("7 new ones", many.even(100), 7);
        T.due("7: HOURS", many.even(101), -3);
        T.due("7: a place", many.even(0), -3);
        T.due("7: no such what", many.even(6), -1);
        T.due("nobody told", new OneCoin().even(101), 0);
    }

    private static void p19Turned() {
        OneCoin x = Calls.owing(3, "a>b;b>c");
        T.due("it can't be", x.turned(0), -2);
        T.due("it can't be", x.turned(1), -2);
        x.debt(0, 2, 1);
        T.due("a>b, a>c, b>c: a>c is turned", x.turned(0), 1);
        T.due("the second bit", x.turned(1), 2);
        x.debt(0, 2, 0);
        x.debt(2, 0, 1);
        T.due("EVEN as it is", x.turned(0), 0);
        T.due("EVEN as it is", x.turned(1), 0);
        OneCoin twelve = Calls.owing(2, "a>b12");
        T.due("12", twelve.turned(0), 6);
        T.due("the least bits", twelve.turned(1), 63);
        twelve.debt(0, 1, 13);
        T.due("13", twelve.turned(0), -3);
        T.due("13", twelve.turned(1), -3);
        T.due("no such what", twelve.turned(2), -1);
        T.due("no such what", twelve.turned(-1), -1);
    }

    private static void p20SetOff() {
        OneCoin x = Calls.owing(3, "a>b5;b>a2;c>a");
        T.due("setOff(0)", x.setOff(0), -2);
        T.due("setOff(1)", x.setOff(1), 3);
        T.due("setOff(2)", x.setOff(2), -1);
        T.due("setOff(3)", x.setOff(3), -1000000);
        T.due("setOff(-1)", x.setOff(-1), -1000000);
        T.due("setOff(10)", x.setOff(10), -1000000);
    }

    private static void p21Fewest() {
        OneCoin x = Calls.owing(6, "a>b5;c>d5;e>f3");
        T.due("three pairs", x.fewest(), 3);
        Calls.debts(x, "a>b5;b>c5;c>a5");
        T.due("all settled", x.fewest(), 0);
        Calls.debts(x, "a>d2;b>d3;c>e4;c>f");
        T.due("two groups of three", x.fewest(), 4);
        Calls.debts(x, "a>b;a>c;a>d;a>e;a>f");
        T.due("one group of six", x.fewest(), 5);
        T.due("nobody", new OneCoin().fewest(), 0);
    }

    private static void p22Rings() {
        OneCoin x = Calls.owing(6, "a>b;b>c;c>a;c>d;d>e;e>d");
        T.due("how many", x.rings(100), 3);
        T.due("a", x.rings(0), 7);
        T.due("e", x.rings(4), 24);
        T.due("f", x.rings(5), 32);
        T.due("not told", x.rings(6), -1);
        T.due("no such what", x.rings(10), -1);
        T.due("no such what", x.rings(101), -1);
        T.due("no such what", x.rings(-1), -1);
    }

    private static void p23Off() {
        OneCoin x = Calls.owing(5, "a>b;b>c;d>a");
        T.due("nobody HOLDS it", x.off(), -2);
        x.coin(0);
        T.due("from a", x.off(), 8 | 16);
        x.coin(4);
        T.due("from e", x.off(), 15);
        x.coin(3);
        T.due("from d", x.off(), 16);
    }

    private static void p24When() {
        OneCoin x = Calls.owing(3, "a>b;b>c");
        Calls.law(x, "e1(1=1)");
        T.due("nobody HOLDS it", x.when(0, 240), -2);
        x.coin(0);
        T.due("who HOLDS it", x.when(0, 1), 0);
        T.due("b", x.when(1, 240), 8);
        T.due("b in 8", x.when(1, 8), 8);
        T.due("b in 7", x.when(1, 7), -2);
        T.due("c", x.when(2, 240), 10);
        T.due("no such n", x.when(0, 0), -1);
        T.due("no such n", x.when(0, 241), -1);
        T.due("not told", x.when(3, 1), -1);
        T.due("no such one", x.when(-1, 1), -1);
        x.hours(7);
        T.due("b from its WAY", x.when(1, 240), 1);
        T.due("no HOUR goes by", x.count(5), 7);
    }

    private static void p25Wedding() {
        OneCoin x = Calls.owing(3, "a>b9;b>a9;b>c");
        Calls.law(x, "e1(c<2)");
        x.coin(0);
        T.due("a, b", x.wedding(0, 1, 240), 0);
        T.due("b arrives at 7, a at 9: 10 HOURS", x.wedding(1, 0, 10), 0);
        T.due("not in 9 HOURS", x.wedding(0, 1, 9), -2);
        T.due("the same", x.wedding(1, 1, 240), -1);
        T.due("not told", x.wedding(1, 3, 240), -1);
        T.due("not told", x.wedding(3, 1, 240), -1);
        T.due("no such n", x.wedding(0, 1, 0), -1);
        T.due("no such n", x.wedding(0, 1, 241), -1);
        OneCoin later = Calls.owing(3, "a>b;b>c");
        Calls.law(later, "e1(t>18|y=5&c=2|y=4&c=1)");
        later.coin(0);
        T.due("b on DAY 0, c on DAY 1", later.wedding(1, 2, 240), -2);
        OneCoin third = Calls.owing(3, "a>b2;b>a2");
        Calls.law(third, "e1(y=3);r10(y<3)");
        third.hours(48);
        third.coin(0);
        T.due("DAYS as they are counted", third.wedding(0, 1, 240), 3);
    }

    private static void p26Longest() {
        OneCoin x = Calls.people(4);
        T.due("nobody", x.longest(), -2);
        x.coin(3);
        x.hours(2);
        T.due("d", x.longest(), 3);
        x.coin(1);
        x.hours(2);
        T.due("of like ones the lowest", x.longest(), 1);
        x.coin(2);
        x.hours(3);
        T.due("c", x.longest(), 2);
    }

    private static void p27Chalk() {
        OneCoin x = Calls.owing(3, "a>b30;b>a30;b>c");
        x.coin(0);
        T.due("no CHALK", x.chalk(0), -1);
        Calls.walk(x, "bab");
        T.dueRow("the oldest first", Calls.chalkRow(x), 1, 0, 1);
        T.due("no such place", x.chalk(3), -1);
        T.due("no such place", x.chalk(-1), -1);
        Calls.walk(x, "9(ab)9(ab)ab");
        T.due("40 are there", x.count(8), 40);
        T.due("the oldest of 41 is gone", x.chalk(0), 0);
        Calls.walk(x, "c");
        T.due("the last", x.chalk(39), 2);
        T.due("no place behind it", x.chalk(40), -1);
        T.due("the oldest of 42", x.chalk(0), 1);
        T.due("b in CHALK", x.personIs(1, 5), 20);
    }

    private static void p28Two() {
        OneCoin x = Calls.owing(4, "a>b;c>d");
        T.due("nobody HOLDS the first one", x.two(2), -2);
        T.due("not told first", x.two(4), -1);
        x.coin(0);
        T.due("each its row", x.two(2), 1);
        T.due("not all can be paid", x.two(0), -4);
        T.due("not all can be paid", x.two(1), -4);
        T.due("no such one", x.two(-1), -1);
        Calls.debts(x, "a>b;b>a;a>d;d>a");
        T.due("the longer of both", x.two(0), 6);
        T.due("all by the first", x.two(2), 8);
        Calls.debts(x, "a>b4;b>a4");
        T.due("8 DEBTS", x.two(0), 4);
        T.due("8 DEBTS, from the other", x.two(1), 4);
        x.debt(0, 1, 5);
        T.due("more than 8", x.two(0), -3);
        Calls.debts(x, "a>b");
        x.debt(0, 1, 0);
        T.due("no DEBTS", x.two(3), 0);
    }

    private static void p29Dry() {
        OneCoin x = Calls.people(1);
        T.due("no rain: above", x.dry(9, 0), 1);
        T.due("no rain: below", x.dry(9, 1), 1);
        Calls.law(x, "r3(1=1)");
        T.due("3: above", x.dry(9, 0), 40353607);
        T.due("3: below", x.dry(9, 1), 1000000000);
        Calls.law(x, "r5(1=1)");
        T.due("5: above", x.dry(3, 0), 1);
        T.due("5: below", x.dry(3, 1), 8);
        Calls.law(x, "r99(1=1)");
        T.due("10: above", x.dry(2, 0), 0);
        T.due("10: below", x.dry(2, 1), 1);
        Calls.law(x, "r2+t+y+h+c+n+o+w+g(y=1)");
        x.hours(24);
        x.hours(5);
        T.due("r now, t 0: above", x.dry(1, 0), 7);
        T.due("r now, t 0: below", x.dry(1, 1), 10);
        T.due("no such n", x.dry(0, 0), -1);
        T.due("no such n", x.dry(10, 0), -1);
        T.due("no such what", x.dry(1, 2), -1);
        T.due("no such what", x.dry(1, -1), -1);
    }

    private static void p30Seed() {
        OneCoin x = new OneCoin();
        T.due("seed(65535)", x.seed(65535), true);
        T.due("X", x.count(11), 65535);
        T.due("seed(65536)", x.seed(65536), false);
        T.due("seed(-1)", x.seed(-1), false);
        T.due("X stays", x.count(11), 65535);
        T.due("seed(0)", x.seed(0), true);
        x.hours(1);
        T.due("a DRAW from 0", x.count(11), 13849);
        Calls.law(x, "r9(1=1)");
        x.seed(0);
        x.hours(24);
        x.seed(0);
        x.hours(1);
        T.due("9 is not below 9", x.count(7), 0);
        Calls.law(x, "r10(1=1)");
        T.due("9 is below 10", x.tried(24, 3), 1);
    }

    private static void p31Keep() {
        OneCoin x = Calls.owing(2, "a>b7;b>a2");
        T.due("keep", x.keep(), 9);
        T.due("an empty one", new OneCoin().keep(), 0);
        T.due("nothing changes", x.count(1), 9);
    }

    private static void p32Undo() {
        OneCoin x = Calls.owing(3, "a>c9;c>a9");
        Calls.law(x, "e1(1=1);r5(y=3)");
        T.due("none was KEPT", x.undo(), false);
        x.coin(0);
        x.hours(7);
        x.keep();
        int[] before = state(x);
        x.hours(240);
        x.seed(5);
        x.debt(1, 0, 4);
        x.person(5, 1, 1);
        Calls.law(x, "e2(1=1)");
        x.feed(0, 0, 0, 0, 0);
        T.due("undo", x.undo(), true);
        T.dueRow("as it was KEPT", state(x), before);
        T.due("on its WAY to c", x.hours(2), 1);
        T.due("the DEBT for which it came", x.owes(0, 2), 8);
        T.due("undo again", x.undo(), true);
        T.dueRow("as it was KEPT last", state(x), before);
        T.due("PEOPLE stay", x.count(0), 7 | 32);
        T.due("THE LAW stays", x.count(9), 1);
        T.due("the tape stays", x.count(10), 20);
    }

    private static int[] state(OneCoin x) {
        int[] state = new int[20];
        for (int what = 1; what <= 8; what++) {
            state[what] = x.count(what);
        }
        state[9] = x.count(11);
        for (int p = 0; p < 3; p++) {
            state[10 + p] = x.personIs(p, 2);
            state[13 + p] = x.personIs(p, 4);
            state[16 + p] = x.personIs(p, 5);
        }
        return state;
    }

    private static void p33Check() {
        OneCoin x = Calls.owing(4, "a>b99;a>c99;a>d57;b>a3;d>a54");
        String right = "" + (char) 255 + (char) 3 + (char) 0 + (char) 54 + (char) 0 + (char) 0 + (char) 0 + (char) 0
            + (char) 0 + (char) 0;
        Calls.feed(x, right);
        T.due("right", x.check(10), -1);
        T.due("the tape is empty", x.count(10), 0);
        x.debt(0, 3, 56);
        Calls.feed(x, right);
        T.due("254 is not 255", x.check(10), 0);
        x.debt(0, 3, 99);
        Calls.feed(x, right.substring(0, 3) + (char) 53 + (char) 1);
        T.due("the first that is not so", x.check(5), 3);
        T.due("the tape is empty", x.count(10), 0);
        Calls.feed(x, right.substring(0, 3) + (char) 53);
        T.due("only three are asked", x.check(3), -1);
        Calls.feed(x, right.substring(0, 4) + (char) 1);
        T.due("one not told owes 0", x.check(5), 4);
        Calls.feed(x, right);
        T.due("check(11)", x.check(11), -2);
        T.due("check(-1)", x.check(-1), -2);
        T.due("the tape stays", x.count(10), 20);
        T.due("check(0)", x.check(0), -1);
        T.due("the tape is empty", x.count(10), 0);
        T.due("it has not so many", x.check(1), -2);
        T.due("check(0) of none", x.check(0), -1);
    }

    private static void p34Count() {
        OneCoin x = Calls.owing(3, "a>c2;b>a");
        Calls.law(x, "e1(1=1);r10(y>0)");
        x.coin(0);
        x.hours(7);
        x.feed(0, 0, 0, 0, 0);
        int[] onWay = {7, 3, -2, 2, 2, 7, 0, 0, 0, 2, 20, 39022};
        for (int what = 0; what < onWay.length; what++) {
            T.due("on its WAY: count(" + what + ")", x.count(what), onWay[what]);
        }
        x.hours(20);
        int[] rain = {7, 2, 2, -2, 0, 3, 1, 1, 1, 2, 20, (25173 * 39022 + 13849) & 65535};
        for (int what = 0; what < rain.length; what++) {
            T.due("in rain: count(" + what + ")", x.count(what), rain[what]);
        }
        T.due("count(12)", x.count(12), -1);
        T.due("count(-1)", x.count(-1), -1);
    }
}
