/** The boundaries of PEOPLE and their WAYS, of what THE LAW answers, and of what goes by HOURS. */
public final class HoursTest {
    private static final Calls T = new Calls("HoursTest");

    public static void main(String[] args) {
        people();
        way();
        wayOnItsWay();
        bounds();
        firstRule();
        inPlaceOfTheOneBefore();
        manyLaws();
        noRule();
        refusedToPay();
        numbers32Bits();
        numbersFromTheLeft();
        dividedByNought();
        signsOfATest();
        askedAsMatters();
        lettersNotTold();
        letters();
        lettersBehindWhatWasTried();
        draws();
        rain();
        interest();
        interestInOrder();
        onItsWay();
        throughNightAndRain();
        held();
        sixToNineteen();
        toWhom();
        hoursAndDays();
        lastDay();
        T.end();
    }

    private static void people() {
        T.says("PEOPLE a to j (0 to 9): told or not, each at a SPOT (x, y 0 to 9 each)");
        OneCoin x = new OneCoin();
        int[] wrong = {-1, 10, Integer.MIN_VALUE, Integer.MAX_VALUE, 1 << 16, -10};
        for (int n : wrong) {
            T.due("person(" + n + ", 0, 0)", x.person(n, 0, 0), false);
            T.due("person(0, " + n + ", 0)", x.person(0, n, 0), false);
            T.due("person(0, 0, " + n + ")", x.person(0, 0, n), false);
        }
        T.due("none is told", x.count(0), 0);
        for (int p = 0; p < 10; p++) {
            T.due("person(" + p + ")", x.person(p, p, 9 - p), true);
            T.due("told", x.count(0), (2 << p) - 1);
            T.due("x", x.personIs(p, 0), p);
            T.due("y", x.personIs(p, 1), 9 - p);
        }
        T.due("in place of the one before", x.person(3, 0, 9), true);
        T.due("x", x.personIs(3, 0), 0);
        T.due("y", x.personIs(3, 1), 9);
        T.due("a wrong one leaves it", x.person(3, 1, 10), false);
        T.due("x", x.personIs(3, 0), 0);
        T.says("DEBTS: of each told one to each other told one a number (0 to 99; 0 at first)");
        for (int a = 0; a < 10; a++) {
            for (int b = 0; b < 10; b++) {
                T.due("owes(" + a + ", " + b + ")", x.owes(a, b), a == b ? -1 : 0);
            }
        }
    }

    private static void way() {
        T.says("THE WAY from one to another one: HOURS: x and y apart together, one at least");
        int[][] spots = {{0, 0, 0, 0, 1}, {9, 9, 9, 9, 1}, {0, 0, 0, 1, 1}, {0, 0, 1, 0, 1}, {0, 0, 1, 1, 2}, {0, 0, 9, 9, 18},
            {9, 9, 0, 0, 18}, {0, 9, 9, 0, 18}, {9, 0, 0, 9, 18}, {5, 5, 4, 6, 2}, {3, 7, 3, 2, 5}, {7, 3, 2, 3, 5}};
        for (int[] s : spots) {
            OneCoin x = new OneCoin();
            x.person(0, s[0], s[1]);
            x.person(1, s[2], s[3]);
            x.debt(0, 1, 1);
            x.coin(0);
            T.due("HOURS of a ROUTE", Calls.route(x, "b", 1), s[4]);
            Calls.law(x, "ew(1=1)");
            T.due("w", x.likes(0, 1), s[4]);
            T.due("w back", x.likes(1, 0), s[4]);
            x.hours(7);
            T.due("HOURS still", x.count(4), s[4]);
        }
    }

    private static void wayOnItsWay() {
        T.says("in place of the one before; DEBTS stay");
        OneCoin x = Calls.holding(2, "a>b4");
        Calls.law(x, "e1(1=1)");
        x.person(1, 9, 9);
        T.due("owed still", x.owes(0, 1), 4);
        T.due("the new WAY", x.when(1, 240), 7 + 18);
        x.hours(7);
        x.person(1, 0, 0);
        T.due("owed still", x.owes(0, 1), 4);
        T.due("the next WAY", Calls.route(x, "b", 0), -2);
        x.coin(0);
        T.due("is one HOUR", Calls.route(x, "b", 1), 1);
    }

    private static int liking(String e) {
        OneCoin x = Calls.people(2);
        Calls.law(x, e);
        return x.likes(0, 1);
    }

    private static int growth(String law, int before) {
        OneCoin x = Calls.people(2);
        x.debt(0, 1, before);
        Calls.law(x, law);
        return x.tried(1, 4);
    }

    /** Tenths that a DAY is rainy, by DRY for one DAY. */
    private static int tenths(String law) {
        OneCoin x = Calls.people(2);
        Calls.law(x, law);
        return 10 - 10 * x.dry(1, 0) / x.dry(1, 1);
    }

    private static void bounds() {
        T.says("e how much one likes to pay a certain one (0 to 9999) (beyond its bounds the bound)");
        T.due("9998", liking("e9998(1=1)"), 9998);
        T.due("9999", liking("e9999(1=1)"), 9999);
        T.due("10000", liking("e10000(1=1)"), 9999);
        T.due("99999", liking("e99999(1=1)"), 9999);
        T.due("1", liking("e1(1=1)"), 1);
        T.due("0", liking("e0(1=1)"), 0);
        T.due("-1", liking("e0-1(1=1)"), 0);
        T.due("-99999", liking("e0-99999(1=1)"), 0);
        T.says("i coins by which a DEBT grows in a DAY (0 to 9) (beyond its bounds the bound)");
        T.due("8", growth("i8(1=1)", 1), 8);
        T.due("9", growth("i9(1=1)", 1), 9);
        T.due("10", growth("i10(1=1)", 1), 9);
        T.due("1", growth("i1(1=1)", 1), 1);
        T.due("0", growth("i0(1=1)", 1), 0);
        T.due("-1", growth("i0-1(1=1)", 1), 0);
        T.says("r tenths that a DAY is rainy (0 to 10) (beyond its bounds the bound)");
        T.due("9", tenths("r9(1=1)"), 9);
        T.due("10", tenths("r10(1=1)"), 10);
        T.due("11", tenths("r11(1=1)"), 10);
        T.due("1", tenths("r1(1=1)"), 1);
        T.due("0", tenths("r0(1=1)"), 0);
        T.due("-1", tenths("r0-1(1=1)"), 0);
    }

    private static void firstRule() {
        T.says("of the first RULE of e, i, r whose C holds the E");
        T.due("e, the first that holds", liking("e1(1=2);e2(1=1);e3(1=1)"), 2);
        T.due("e of 0 is taken, too", liking("e0(1=1);e3(1=1)"), 0);
        T.due("e below 0 is taken, too", liking("e0-5(1=1);e3(1=1)"), 0);
        T.due("i, the first that holds", growth("i1(1=2);i2(1=1);i3(1=1)", 1), 2);
        T.due("i of 0 is taken, too", growth("i0(1=1);i3(1=1)", 1), 0);
        T.due("r, the first that holds", tenths("r1(1=2);r2(1=1);r3(1=1)"), 2);
        T.due("r of 0 is taken, too", tenths("r0(1=1);r3(1=1)"), 0);
        T.due("e passes i and r", liking("i1(1=1);r2(1=1);e3(1=1)"), 3);
        T.due("i passes e and r", growth("e1(1=1);r2(1=1);i3(1=1)", 1), 3);
        T.due("r passes e and i", tenths("e1(1=1);i2(1=1);r3(1=1)"), 3);
        T.due("i is not halved by s", growth("s(1=1);i3(1=1)", 1), 3);
        T.due("r is not halved by s", tenths("s(1=1);r3(1=1)"), 3);
        T.due("the sixteenth", liking("e1(1=2);".repeat(15) + "e7(1=1)"), 7);
    }

    private static void inPlaceOfTheOneBefore() {
        T.says("in place of the one before");
        OneCoin x = Calls.people(2);
        x.debt(0, 1, 1);
        Calls.law(x, "e1(1=1);s(1=1);s(1=1);i5(1=1);r5(1=1);e7(1=1)");
        T.due("six", x.count(9), 6);
        Calls.law(x, "e0(1=1)");
        T.due("one", x.count(9), 1);
        T.due("e", x.likes(0, 1), 0);
        Calls.law(x, "e2(1=1)");
        T.due("none of the s before", x.likes(0, 1), 2);
        T.due("none of the i before", x.tried(1, 4), 0);
        T.due("none of the r before", x.dry(1, 0), 1);
        Calls.law(x, "i2(1=1)");
        T.due("none of the e before", x.likes(0, 1), 0);
        T.due("i", x.tried(1, 4), 2);
        T.says("a FAULT (the one before stays)");
        T.due("a FAULT", Calls.law(x, "i3(1=1);i4(1=1);s(1=1);e5(1=1"), -1029);
        T.due("RULES", x.count(9), 1);
        T.due("i stays", x.tried(1, 4), 2);
        T.due("e stays", x.likes(0, 1), 0);
        T.due("NONE", x.law(0), -1);
        T.due("i stays", x.tried(1, 4), 2);
    }

    private static void manyLaws() {
        T.says("THE LAW: a TEXT of at most 240 bytes, in place of the one before");
        OneCoin x = Calls.people(2);
        String full = "e1(1=2" + "|1=2".repeat(56) + "|1=12|h=0)";
        String other = "e" + "1+".repeat(115) + "12(c=1)";
        T.due("bytes", full.length(), 240);
        for (int k = 0; k < 8; k++) {
            Calls.law(x, full);
            T.due("the last of its PARTS", x.likes(0, 1), 1);
            T.due("none of its PARTS", x.likes(1, 0), 0);
            Calls.law(x, other);
            T.due("the sum of its TERMS", x.likes(0, 1), 127);
            T.due("not for another one", x.likes(1, 0), 0);
        }
    }

    private static void noRule() {
        T.says("(beyond its bounds the bound; none: 0)");
        OneCoin x = Calls.people(2);
        T.due("no LAW: e", x.likes(0, 1), 0);
        T.due("no LAW: r, above", x.dry(9, 0), 1);
        T.due("no LAW: r, below", x.dry(9, 1), 1);
        T.due("no LAW: i", growth("s(1=1)", 1), 0);
        T.due("none holds: e", liking("e5(1=2);e5(2<1)"), 0);
        T.due("none holds: i", growth("i5(1=2);i5(2<1)", 1), 0);
        T.due("none holds: r", tenths("r5(1=2);r5(2<1)"), 0);
    }

    private static void refusedToPay() {
        T.says("s one will not be paid (any will do; without an s in THE LAW all will)");
        T.due("without an s", liking("e5(1=1)"), 5);
        T.due("an s ahead", liking("s(1=1);e5(1=1)"), 0);
        T.due("an s behind", liking("e5(1=1);s(1=1)"), 0);
        T.due("the first of two", liking("s(1=1);s(1=2);e5(1=1)"), 0);
        T.due("the last of two", liking("s(1=2);e5(1=1);s(1=1)"), 0);
        T.due("neither", liking("s(1=2);e5(1=1);s(1=2)"), 5);
        OneCoin x = Calls.holding(3, "a>b;a>c");
        Calls.law(x, "e9(c=1);e1(1=1);s(c=1)");
        T.due("who will be paid is", x.tried(9, 2), 2);
        Calls.law(x, "e9(c=1);e1(1=1);s(1=1)");
        T.due("nobody is", x.tried(24, 0), 0);
    }

    private static void numbers32Bits() {
        T.says("All is reckoned with 32 bits, as the machine does");
        T.due("65536 * 65536", liking("e65536*65536+5(1=1)"), 5);
        T.due("46340 * 46340", liking("e46340*46340(1=1)"), 9999);
        T.due("46341 * 46341", liking("e46341*46341(1=1)"), 0);
        T.due("the greatest", liking("e32768*65535+32767-[32768*65536-1](1=1)"), 0);
        T.due("the greatest and one", liking("e5([32768*65536-1]+1<0)"), 5);
        T.due("the least less one", liking("e5([32768*65536]-1>0)"), 5);
        T.due("0 less the least", liking("e5(0-[32768*65536]<0)"), 5);
        T.due("the least by -1", liking("e5([32768*65536]/[0-1]=32768*65536)"), 5);
        T.due("the least modulo -1", liking("e5([32768*65536]%[0-1]=0)"), 5);
        T.due("-7 / 2", liking("e[0-7]/2+9(1=1)"), 6);
        T.due("7 / -2", liking("e7/[0-2]+9(1=1)"), 6);
        T.due("-7 % 2", liking("e[0-7]%2+9(1=1)"), 8);
        T.due("7 % -2", liking("e7%[0-2]+9(1=1)"), 10);
        T.due("99999 * 99999", liking("e5(99999*99999=21512*65536+54977)"), 5);
    }

    private static void numbersFromTheLeft() {
        T.says("TERMS with + or - between two; a TERM: FACTORS with one of * / % between two; from the left on");
        T.due("9-4-3", liking("e9-4-3(1=1)"), 2);
        T.due("9-4+3", liking("e9-4+3(1=1)"), 8);
        T.due("100/10/5", liking("e100/10/5(1=1)"), 2);
        T.due("100/10*5", liking("e100/10*5(1=1)"), 50);
        T.due("7*3/2", liking("e7*3/2(1=1)"), 10);
        T.due("7/2*3", liking("e7/2*3(1=1)"), 9);
        T.due("17%7*2", liking("e17%7*2(1=1)"), 6);
        T.due("17*2%7", liking("e17*2%7(1=1)"), 6);
        T.due("2+3*4-5*6/3", liking("e2+3*4-5*6/3(1=1)"), 4);
        T.due("[2+3]*[4-1]", liking("e[2+3]*[4-1](1=1)"), 15);
        T.due("9-[4-3]", liking("e9-[4-3](1=1)"), 8);
        T.due("six [ in one another", liking("e1+2*[1+2*[1+2*[1+2*[1+2*[1+2*[1+2*3]]]]]](1=1)"), 511);
        T.due("five of both E of a TEST", liking("e3([9-[8-[7-[6-[5-4]]]]]=[[[[[3]]]]])"), 3);
        T.due("7/1", liking("e7/1(1=1)"), 7);
        T.due("7%1", liking("e7%1(1=1)"), 0);
        T.due("7*1", liking("e7*1(1=1)"), 7);
        T.due("7*0", liking("e7*0(1=1)"), 0);
        T.due("7/7", liking("e7/7(1=1)"), 1);
        T.due("7/8", liking("e7/8(1=1)"), 0);
        T.due("7%7", liking("e7%7(1=1)"), 0);
        T.due("7%8", liking("e7%8(1=1)"), 7);
        T.due("a number 0", liking("e00000+7(1=1)"), 7);
        T.due("a number 00012", liking("e00012(1=1)"), 12);
    }

    private static void dividedByNought() {
        T.says("what is divided by 0 is REFUSED: then the C as a whole does not hold (through any !, ( ) and |), an E is 0");
        String[] refused = {"1/0=0", "1%0=0", "0/0=0", "0%0=0", "1/h=0", "1%h=0", "1/[1-1]=0", "0<1/0", "!1/0=0", "!1/0=1",
            "!!1/0=0", "1/0=0|1=1", "!(1/0=1)", "!(1/0=0)", "(1/0=0)|1=1", "1=1&1/0=0|1=1", "!(1=2|1%0=1)|1=1", "1=[1+1/0]",
            "1=2|!(!(1/0=0))|1=1", "5+0*[1/0]=5"};
        for (String c : refused) {
            T.due("e3(" + c + ")", liking("e3(" + c + ")"), 0);
            T.due("the next RULE behind " + c, liking("e3(" + c + ");e4(1=1)"), 4);
            T.due("s(" + c + ")", liking("s(" + c + ");e4(1=1)"), 4);
        }
        String[] numbers = {"1/0", "1%0", "5+1/0", "1/0+5", "5+[1/0]", "[1/0]*0+5", "5-0*[7%0]", "1/[2/[1-1]]"};
        for (String e : numbers) {
            T.due("e" + e, liking("e" + e + "(1=1)"), 0);
            T.due("no next RULE behind e" + e, liking("e" + e + "(1=1);e4(1=1)"), 0);
        }
        T.due("i1/0", growth("i1/0(1=1);i5(1=1)", 1), 0);
        T.due("r1/0", tenths("r1/0(1=1);r5(1=1)"), 0);
        T.due("i, C refused", growth("i1(1/0=0);i5(1=1)", 1), 5);
        T.due("r, C refused", tenths("r1(1/0=0);r5(1=1)"), 5);
        T.due("an E that is not asked", liking("e1/0(1=2);e5(1=1)"), 5);
        T.due("0 divided", liking("e0/5+3(0%5=0)"), 3);
    }

    private static void signsOfATest() {
        T.says("a TEST: !TEST, (C), or E, one of < > =, and E");
        for (int a = 1; a <= 3; a++) {
            isSo(a + "<2", a < 2);
            isSo(a + ">2", a > 2);
            isSo(a + "=2", a == 2);
            isSo("!" + a + "<2", a >= 2);
            isSo("!" + a + ">2", a <= 2);
            isSo("!" + a + "=2", a != 2);
            isSo("!!" + a + "<2", a < 2);
            isSo("!!" + a + ">2", a > 2);
            isSo("!(" + a + "<2)", a >= 2);
            isSo("!(" + a + ">2)", a <= 2);
            isSo("!(" + a + "=2|" + a + ">2)", a < 2);
        }
        isSo("0-1<0", true);
        isSo("0>0-1", true);
        isSo("!0<0-1", true);
    }

    private static void askedAsMatters() {
        T.says("Of a C as much is asked, from the left, as matters");
        String[] holds = {"1=1|1/0=0", "!(1=2&1/0=0)", "1=2&1/0=0|1=1", "1=1|1=2&1/0=0", "(1=1|1/0=0)&1=1", "1=1&1=1|1/0=0",
            "1=2&1=1&1/0=0|2=2", "!(1=1&1=2&1/0=0)", "1=1|1=2|1/0=0", "!!(1=1|1%0=0)", "(1=2&1/0=0)|1=1", "1=1|(1/0=0)"};
        for (String c : holds) {
            T.due("e3(" + c + ")", liking("e3(" + c + ");e4(1=1)"), 3);
        }
        String[] fails = {"1=2&1/0=0", "1=2|1=1&1/0=0", "1=1&1/0=0", "1=2&1=1|1/0=0", "!(1=1|1/0=0)", "1=1&(1=2|1/0=0)"};
        for (String c : fails) {
            T.due("e3(" + c + ")", liking("e3(" + c + ");e4(1=1)"), 4);
        }
        T.says("C: PARTS with a | between two, one of which must hold; a PART: TESTS with an & between two, all of which must");
        boolean[] truth = {false, true};
        for (boolean a : truth) {
            for (boolean b : truth) {
                for (boolean c : truth) {
                    truthOf(a, b, c);
                }
            }
        }
    }

    private static void truthOf(boolean a, boolean b, boolean c) {
        String p = a ? "1=1" : "1=2";
        String q = b ? "1=1" : "1=2";
        String r = c ? "1=1" : "1=2";
        isSo(p + "&" + q + "|" + r, a && b || c);
        isSo(p + "|" + q + "&" + r, a || b && c);
        isSo("(" + p + "|" + q + ")&" + r, (a || b) && c);
        isSo(p + "&(" + q + "|" + r + ")", a && (b || c));
        isSo("!" + p + "&" + q + "|!" + r, !a && b || !c);
        isSo("!(" + p + "&" + q + ")|" + r, !(a && b) || c);
        isSo("!(" + p + "|" + q + "|" + r + ")", !(a || b || c));
        isSo(p + "&" + q + "&" + r, a && b && c);
        isSo(p + "|" + q + "|" + r, a || b || c);
        isSo("!!" + p + "&!!!" + q, a && !b);
    }

    private static void isSo(String c, boolean want) {
        T.due("C: " + c, liking("e3(" + c + ")"), want ? 3 : 0);
    }

    private static void lettersNotTold() {
        T.says("(Where they are not told they are 0.)");
        OneCoin x = Calls.owing(3, "b>c2;c>b;b>a2;a>c");
        x.coin(1);
        Calls.walk(x, "cb");
        x.hours(24 + 5);
        for (String letter : new String[] {"h", "c", "n", "o", "w", "g", "t"}) {
            Calls.law(x, "r5(" + letter + "=0)");
            T.due(letter + " of r, above", x.dry(1, 0), 1);
            T.due(letter + " of r, below", x.dry(1, 1), 2);
            Calls.law(x, "r" + letter + "+1(1=1)");
            T.due(letter + " in E of r", x.dry(1, 0), 9);
        }
        Calls.law(x, "ry+2(1=1)");
        T.due("y of r", x.dry(1, 0), 7);
        x.hours(24 - 5);
        Calls.law(x, "r10(h+c+n+o+w+g+t=0&y=2)");
        T.due("none of them at HOUR 0", x.tried(1, 3), 1);
        x.likes(1, 2);
        T.due("not even behind others", x.tried(1, 3), 1);
    }

    private static void letters() {
        T.says("h who owes, c to whom, n how many of that DEBT, o how many that one owes in all, w, g, t, y (these in e, i, s)");
        OneCoin x = Calls.owing(4, "d>b4;d>c;b>d;c>d");
        x.coin(3);
        Calls.walk(x, "bd");
        x.hours(24 + 7);
        int[] want = {3, 1, 3, 4, 2, 1, 7, 1};
        String letters = "hcnowgty";
        for (int k = 0; k < letters.length(); k++) {
            Calls.law(x, "e" + letters.charAt(k) + "(1=1)");
            T.due("e: " + letters.charAt(k), x.likes(3, 1), want[k]);
            Calls.law(x, "e9(1=1);s(" + letters.charAt(k) + "=" + want[k] + ")");
            T.due("s: " + letters.charAt(k), x.likes(3, 1), 0);
            Calls.law(x, "e9(1=1);s(" + letters.charAt(k) + "=" + (want[k] + 1) + ")");
            T.due("s not: " + letters.charAt(k), x.likes(3, 1), 9);
        }
        OneCoin debts = Calls.owing(4, "d>b4;b>d");
        debts.coin(3);
        Calls.walk(debts, "bd");
        debts.hours(24);
        int[] atNought = {3, 1, 3, 3, 2, 1, 0, 1};
        for (int k = 0; k < letters.length(); k++) {
            Calls.law(debts, "i" + letters.charAt(k) + "(1=1)");
            T.due("i: " + letters.charAt(k), debts.tried(1, 4), atNought[k]);
        }
        T.says("g how often c got the coin (in all CHALK that is there)");
        OneCoin much = Calls.holding(3, "a>b50;b>a50;a>c;c>a");
        Calls.law(much, "eg(1=1)");
        Calls.walk(much, "ca5(5(ba))");
        T.due("g of 40 places: b", much.likes(0, 1), 20);
        T.due("g of 40 places: c is gone", much.likes(0, 2), 0);
    }

    private static void lettersBehindWhatWasTried() {
        T.says("e of a told one for another told one now");
        OneCoin x = Calls.holding(2, "a>b9;b>a9");
        Calls.law(x, "e1+t+100*y(1=1);i1(1=1)");
        x.hours(24 + 5);
        T.due("DAY 1, HOUR 5", x.likes(0, 1), 106);
        x.tried(240, 0);
        T.due("behind what was tried", x.likes(0, 1), 106);
        x.when(1, 240);
        T.due("behind when", x.likes(0, 1), 106);
        x.wedding(0, 1, 240);
        T.due("behind wedding", x.likes(0, 1), 106);
        x.keep();
        x.hours(240);
        x.undo();
        T.due("UNDONE", x.likes(0, 1), 106);
        OneCoin fresh = Calls.people(2);
        fresh.hours(47);
        Calls.law(fresh, "e1+t+100*y(1=1)");
        T.due("DAY 1, HOUR 23", fresh.likes(0, 1), 124);
        fresh.hours(1);
        T.due("DAY 2, HOUR 0", fresh.likes(0, 1), 201);
    }

    private static void draws() {
        T.says("DRAWS: X = (25173 X + 13849) modulo 65536 (X is THE SEED at first, 1): X modulo 10");
        OneCoin x = new OneCoin();
        T.due("X at first", x.count(11), 1);
        int[] seeds = {1, 0, 65535, 32768, 12345};
        int[] drawn = {39022, 13849, 54212, 46617, 2822};
        for (int k = 0; k < seeds.length; k++) {
            OneCoin y = new OneCoin();
            T.due("seed", y.seed(seeds[k]), true);
            T.due("X is THE SEED", y.count(11), seeds[k]);
            y.hours(1);
            T.due("X of " + seeds[k], y.count(11), drawn[k]);
        }
        T.says("at THE HOUR 0: with a DRAW");
        x.hours(1);
        T.due("at HOUR 0", x.count(11), 39022);
        x.hours(23);
        T.due("at no other", x.count(11), 39022);
        x.hours(1);
        T.due("at the next HOUR 0", x.count(11), (25173 * 39022 + 13849) & 65535);
        T.due("tried ones are not drawn", x.tried(240, 3), 0);
        T.due("X stays", x.count(11), (25173 * 39022 + 13849) & 65535);
    }

    private static void rain() {
        T.says("below r THE DAY is rainy, else dry");
        for (int draw = 0; draw < 10; draw++) {
            for (int r = 0; r <= 10; r++) {
                OneCoin x = new OneCoin();
                Calls.law(x, "r" + r + "(1=1)");
                x.seed(Calls.seedFor(draw));
                T.due("what begins rainy, " + draw + " by " + r, x.tried(1, 3), draw < r ? 1 : 0);
                x.hours(1);
                T.due("rainy, " + draw + " by " + r, x.count(7), draw < r ? 1 : 0);
            }
        }
        OneCoin x = new OneCoin();
        Calls.law(x, "r10(y=0)");
        T.due("dry at first", x.count(7), 0);
        x.hours(1);
        T.due("rainy", x.count(7), 1);
        x.hours(23);
        T.due("till the next DAY begins", x.count(7), 1);
        x.hours(1);
        T.due("else dry", x.count(7), 0);
        OneCoin y = new OneCoin();
        Calls.law(y, "r10(1=1)");
        T.due("a DAY that began before is not told", y.tried(24, 3), 1);
        y.hours(1);
        T.due("none begins in 23", y.tried(23, 3), 0);
        T.due("one begins in 24", y.tried(24, 3), 1);
        T.due("ten begin in 240", y.tried(240, 3), 10);
    }

    private static void interest() {
        T.says("then each DEBT above 0, by who owes, then to whom, grows by i (99 at most)");
        int[] before = {0, 1, 89, 90, 91, 98, 99};
        int[] grown = {0, 9, 9, 9, 8, 1, 0};
        for (int k = 0; k < before.length; k++) {
            T.due("interest on " + before[k], growth("i9(1=1)", before[k]), grown[k]);
            OneCoin x = Calls.people(2);
            x.debt(0, 1, before[k]);
            Calls.law(x, "i9(1=1)");
            x.hours(1);
            T.due("the DEBT of " + before[k], x.owes(0, 1), before[k] + grown[k]);
            T.due("the other way", x.owes(1, 0), 0);
            x.hours(23);
            T.due("not at other HOURS", x.owes(0, 1), before[k] + grown[k]);
            x.hours(1);
            T.due("at the next", x.owes(0, 1), before[k] == 0 ? 0 : Math.min(99, before[k] + 18));
        }
        OneCoin all = Calls.people(10);
        for (int a = 0; a < 10; a++) {
            for (int b = 0; b < 10; b++) {
                all.debt(a, b, 1);
            }
        }
        Calls.law(all, "i1(1=1)");
        T.due("each of all", all.tried(1, 4), 90);
        T.due("coins owed then", all.tried(1, 1), 180);
    }

    private static void interestInOrder() {
        T.says("(o as it is then)");
        OneCoin x = Calls.owing(3, "a>b;a>c;b>a;c>a;c>b");
        Calls.law(x, "io(1=1)");
        x.hours(1);
        T.due("a>b by o 2", x.owes(0, 1), 3);
        T.due("a>c by o 4", x.owes(0, 2), 5);
        T.due("b>a by o 1", x.owes(1, 0), 2);
        T.due("c>a by o 2", x.owes(2, 0), 3);
        T.due("c>b by o 4", x.owes(2, 1), 5);
        OneCoin late = Calls.owing(2, "a>b9");
        late.coin(0);
        Calls.law(late, "e1(t=19);i1(1=1)");
        late.person(1, 4, 0);
        late.hours(20);
        T.due("a DEBT for which it is on its WAY grows, too", late.tried(4, 4), 0);
        T.due("it is there in the HOUR 23", late.tried(4, 1), 9);
        late.person(1, 5, 0);
        late.coin(0);
        late.hours(24);
        T.due("on its WAY", late.count(4), 5);
        T.due("grown twice when it sets out", late.owes(0, 1), 11);
        late.hours(5);
        T.due("grown, then paid", late.owes(0, 1), 11);
    }

    private static void onItsWay() {
        T.says("Is THE COIN on its WAY: an HOUR less; if it is there (no HOUR is left), the DEBT is less by 1");
        OneCoin x = Calls.holding(4, "a>d2;d>a2");
        Calls.law(x, "e1(h=0)");
        x.hours(6);
        T.due("nobody yet", x.count(3), -2);
        T.due("no HOURS", x.count(4), 0);
        T.due("who HOLDS it", x.count(2), 0);
        for (int still = 3; still > 0; still--) {
            T.due("no PAYING", x.hours(1), 0);
            T.due("for whom", x.count(3), 3);
            T.due("HOURS still", x.count(4), still);
            T.due("nobody HOLDS it", x.count(2), -2);
            T.due("the DEBT", x.owes(0, 3), 2);
            T.due("no CHALK", x.count(8), 0);
        }
        T.due("there", x.hours(1), 1);
        T.due("for nobody", x.count(3), -2);
        T.due("no HOURS", x.count(4), 0);
        T.due("who HOLDS it", x.count(2), 3);
        T.due("less by 1", x.owes(0, 3), 1);
        T.due("not the other way", x.owes(3, 0), 2);
        T.due("CHALKED", x.chalk(0), 3);
        T.due("once", x.count(8), 1);
        T.says("(wherever it was)");
        x.coin(0);
        x.hours(1);
        T.due("on its WAY again", x.count(3), 3);
        T.due("off its WAY", x.coin(1), true);
        T.due("nothing comes", x.hours(24), 0);
        T.due("nothing is paid", x.owes(0, 3), 1);
        T.due("no CHALK", x.count(8), 1);
    }

    private static void throughNightAndRain() {
        T.says("and if THE HOUR is 6 to 19 and it is dry (of the setting out alone)");
        OneCoin x = new OneCoin();
        x.person(0, 0, 0);
        x.person(1, 9, 9);
        x.debt(0, 1, 1);
        x.coin(0);
        Calls.law(x, "e1(t=19);r10(y>0)");
        x.hours(20);
        T.due("on its WAY at 20", x.count(4), 18);
        x.hours(4);
        T.due("at night", x.count(4), 14);
        x.hours(13);
        T.due("in rain", x.count(4), 1);
        T.due("it rains", x.count(7), 1);
        T.due("there in rain", x.hours(1), 1);
        T.due("it HOLDS it", x.count(2), 1);
    }

    private static void held() {
        T.says("Else, if somebody HOLDS it: HELD by that one an HOUR more");
        OneCoin x = Calls.holding(4, "a>d");
        Calls.law(x, "e1(t=7)");
        x.hours(1);
        T.due("at HOUR 0", x.personIs(0, 4), 1);
        x.hours(7);
        T.due("in the HOUR it sets out, too", x.personIs(0, 4), 8);
        x.hours(2);
        T.due("not on its WAY", x.personIs(0, 4), 8);
        T.due("not ahead of it", x.personIs(3, 4), 0);
        x.hours(1);
        T.due("there", x.count(2), 3);
        T.due("not in the HOUR it comes", x.personIs(3, 4), 0);
        x.hours(1);
        T.due("in the next", x.personIs(3, 4), 1);
        x.hours(240);
        T.due("by day and night", x.personIs(3, 4), 241);
        T.due("by nobody else", x.personIs(1, 4), 0);
        OneCoin nobody = Calls.people(2);
        nobody.hours(240);
        T.due("nowhere: by nobody", nobody.longest(), -2);
        T.says("HELD: how many HOURS each told one had it (0 at first)");
        for (int p = 0; p < 4; p++) {
            T.due("at first", Calls.people(4).personIs(p, 4), 0);
        }
    }

    private static void sixToNineteen() {
        T.says("if THE HOUR is 6 to 19");
        for (int hour = 0; hour < 24; hour++) {
            OneCoin x = Calls.owing(2, "a>b");
            Calls.law(x, "e1(1=1)");
            if (hour > 0) {
                x.hours(hour);
            }
            x.coin(0);
            x.hours(1);
            T.due("sets out at " + hour, x.count(3), hour >= 6 && hour <= 19 ? 1 : -2);
        }
        T.says("and it is dry");
        OneCoin x = Calls.holding(2, "a>b");
        Calls.law(x, "e1(1=1);r10(y<2)");
        T.due("not on two rainy DAYS", x.hours(48), 0);
        T.due("at 6 of the third", x.when(1, 240), 8);
    }

    private static void toWhom() {
        T.says("of those to whom that one owes, the one with the greatest e above 0 (of like ones the lowest)");
        OneCoin x = Calls.holding(4, "a>b;a>c;a>d;b>d");
        Calls.law(x, "e1(1=1)");
        T.due("of like ones", x.tried(8, 2), 1);
        Calls.law(x, "e1(c=1);e2(1=1)");
        T.due("of like greater ones", x.tried(9, 2), 2);
        Calls.law(x, "ec(1=1)");
        T.due("the greatest", x.tried(10, 2), 3);
        Calls.law(x, "e0(1=1)");
        T.due("e of 0", x.tried(24, 2), 0);
        Calls.law(x, "e0-1(1=1)");
        T.due("e below 0", x.tried(24, 2), 0);
        Calls.law(x, "e1(c=3)");
        T.due("e of 1", x.tried(10, 2), 3);
        Calls.law(x, "e10000+c(1=1)");
        T.due("beyond the bound all are like", x.tried(8, 2), 1);
        x.debt(0, 1, 0);
        Calls.law(x, "e1(1=1)");
        T.due("not to whom one does not owe", x.tried(9, 2), 2);
        x.coin(2);
        T.due("who owes nobody", x.tried(24, 2), 2);
        x.coin(1);
        T.due("another one's DEBTS", x.tried(9, 2), 3);
        T.says("t THE HOUR, y THE DAY, as it sets out");
        Calls.law(x, "e1(t=19)");
        T.due("not ahead of 19", x.tried(19, 12), 0);
        T.due("HELD till 19", x.tried(24, 11), 20);
    }

    private static void hoursAndDays() {
        T.says("THE HOUR is one more (behind 23: 0, THE DAY one more)");
        OneCoin x = new OneCoin();
        for (int hour = 1; hour < 24; hour++) {
            x.hours(1);
            T.due("THE HOUR", x.count(5), hour);
            T.due("DAY 0", x.count(6), 0);
        }
        x.hours(1);
        T.due("behind 23", x.count(5), 0);
        T.due("DAY 1", x.count(6), 1);
        x.hours(240);
        T.due("THE HOUR", x.count(5), 0);
        T.due("ten DAYS more", x.count(6), 11);
        T.due("tried THE HOUR", x.tried(23, 5), 23);
        T.due("tried THE HOUR behind 23", x.tried(24, 5), 0);
        T.due("tried 240", x.tried(240, 5), 0);
        T.due("tried goes by nothing", x.count(6), 11);
    }

    /** What later calls answer than 512 is free; but that DAY can't be had with fewer, and the sentence is kept there, too. */
    private static void lastDay() {
        T.says("9999 at most: then none goes by");
        OneCoin x = Calls.people(1);
        x.coin(0);
        for (int k = 0; k < 999; k++) {
            x.hours(240);
        }
        T.due("THE DAY", x.count(6), 9990);
        T.due("as many as can", x.tried(240, 10), 239);
        x.hours(240);
        T.due("the last DAY", x.count(6), 9999);
        T.due("its last HOUR", x.count(5), 23);
        int held = x.personIs(0, 4);
        T.due("none goes by", x.hours(1), 0);
        T.due("the last DAY", x.count(6), 9999);
        T.due("its last HOUR", x.count(5), 23);
        T.due("nobody HELD it", x.personIs(0, 4), held);
        T.due("nobody in what is tried", x.tried(240, 10), 0);
    }
}
