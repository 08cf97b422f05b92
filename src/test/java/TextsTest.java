/** The boundaries that the document names for its three texts: DEBTS, THE LAW, a ROUTE, and their FAULTS. */
public final class TextsTest {
    private static final Calls T = new Calls("TextsTest");

    /** Bytes that can stand nowhere in any of the texts, blanks and the letters next to a and j among them. */
    private static final String NEVER = " \n\t\0x`k#.,:?\"'AEJ^~\u007f\u0080\u00ff";

    public static void main(String[] args) {
        debtsBytes();
        debtsLines();
        debtsLetters();
        debtsNumbers();
        debtsAddedUp();
        debtsFaultOrder();
        lawBytes();
        lawRules();
        lawDigits();
        lawOpen();
        lawEndOfATest();
        lawEveryPlace();
        routeBytes();
        routeDigits();
        routeBrackets();
        routeNested();
        routeSixty();
        routeSixtyInner();
        everyPrefix();
        T.end();
    }

    private static String times(String part, int many) {
        return part.repeat(many);
    }

    private static String without(String text, int last) {
        return text.substring(0, text.length() - last);
    }

    // ---- DEBTS

    private static void debtsBytes() {
        T.says("A TEXT of DEBTS (at most 160 bytes, no blanks)");
        String full = times("a>b10;", 11) + without(times("a>c1;", 19), 1);
        T.due("bytes", full.length(), 160);
        OneCoin x = Calls.people(3);
        T.due("debts of 160 bytes", Calls.debts(x, full), 99 + 19);
        Calls.feed(x, full + "0");
        T.due("debts of 161 bytes", x.debts(161), -1);
        T.due("the tape stays", x.count(10), 180);
        T.due("the first 160 of them", x.debts(160), 118);
        T.due("empty then, with the bytes behind", x.count(10), 0);
        Calls.feed(x, "a>b;a>b;a>b;a>b;a>b5");
        T.due("one more than the tape has", x.debts(21), -1);
        T.due("as many as the tape has", x.debts(20), 9);
        Calls.feed(x, "a>b2");
        T.due("no byte", x.debts(0), -1);
        T.due("one byte", x.debts(1), -1001);
        T.due("a FAULT empties it, too", x.count(10), 0);
        T.due("none is there", x.debts(1), -1);
        String text = "a>b1;b>a";
        for (int k = 0; k <= text.length(); k++) {
            T.due("a blank at " + k, Calls.debts(x, text.substring(0, k) + " " + text.substring(k)), -1000 - k);
        }
    }

    private static void debtsLines() {
        T.says("LINES with a ; (59) between two (30 at most)");
        OneCoin x = Calls.people(10);
        String thirty = without(times("a>b;", 30), 1);
        T.due("30 LINES", Calls.debts(x, thirty), 30);
        T.due("none ahead of the first", Calls.debts(x, ";a>b"), -1000);
        T.due("none behind the last", Calls.debts(x, "a>b;"), -1004);
        T.due("one between two", Calls.debts(x, "a>b;;a>b"), -1004);
        T.due("58 is no ;", Calls.debts(x, "a>b:a>b"), -1003);
        T.due("60 is no ;", Calls.debts(x, "a>b<a>b"), -1003);
        T.due("they stay", x.count(1), 30);
        T.says("4 a 31st LINE, at its first letter (if that can stand there)");
        T.due("a", Calls.debts(x, thirty + ";a>b"), -4120);
        T.due("j", Calls.debts(x, thirty + ";j>b"), -4120);
        T.due("the letter alone", Calls.debts(x, thirty + ";a"), -4120);
        T.due("k", Calls.debts(x, thirty + ";k>b"), -1120);
        T.due("a digit", Calls.debts(x, thirty + ";5"), -1120);
        T.due("a second ;", Calls.debts(x, thirty + ";;"), -1120);
        T.due("the end", Calls.debts(x, thirty + ";"), -1120);
        T.due("a FAULT ahead of it", Calls.debts(x, without(thirty, 4) + ";a>a;a>b"), -6118);
        OneCoin two = Calls.people(2);
        T.says("7 one that is not told, at its letter (behind 4)");
        T.due("the 30th LINE, not told", Calls.debts(two, without(thirty, 3) + "c>b"), -7116);
        T.due("the 31st LINE, not told", Calls.debts(two, thirty + ";c>b"), -4120);
    }

    private static void debtsLetters() {
        T.says("a letter a to j (who owes), > , a letter a to j (to whom)");
        OneCoin x = Calls.people(10);
        T.due("a>j", Calls.debts(x, "a>j"), 1);
        T.due("j>a", Calls.debts(x, "j>a"), 1);
        T.due("the DEBT", x.owes(9, 0), 1);
        String[] wrong = {"`>a", "k>a", "A>a", "1>a", ">a"};
        for (String text : wrong) {
            T.due(text, Calls.debts(x, text), -1000);
        }
        String[] wrongSign = {"a=b", "a?b", "ab", "a;", "a"};
        for (String text : wrongSign) {
            T.due(text, Calls.debts(x, text), -1001);
        }
        String[] wrongSecond = {"a>`", "a>k", "a>A", "a>1", "a>>b", "a>;", "a>"};
        for (String text : wrongSecond) {
            T.due(text, Calls.debts(x, text), -1002);
        }
        T.due("they stay", x.owes(9, 0), 1);
    }

    private static void debtsNumbers() {
        T.says("perhaps a number of one or two digits (how many; else 1)");
        OneCoin x = Calls.people(2);
        String[] texts = {"a>b", "a>b1", "a>b9", "a>b10", "a>b99", "a>b01", "a>b09", "a>b90"};
        int[] coins = {1, 1, 9, 10, 99, 1, 9, 90};
        for (int k = 0; k < texts.length; k++) {
            T.due(texts[k], Calls.debts(x, texts[k]), coins[k]);
            T.due("the DEBT by " + texts[k], x.owes(0, 1), coins[k]);
        }
        T.due("a third digit", Calls.debts(x, "a>b100"), -1005);
        T.due("a third digit behind a 0", Calls.debts(x, "a>b011"), -1005);
        T.due("47 is no digit", Calls.debts(x, "a>b/"), -1003);
        T.due("58 is no digit", Calls.debts(x, "a>b:"), -1003);
        T.due("47 is no second digit", Calls.debts(x, "a>b1/"), -1004);
        T.due("58 is no second digit", Calls.debts(x, "a>b1:"), -1004);
        T.due("a sign", Calls.debts(x, "a>b-1"), -1003);
        T.says("3 a number 0, at its first digit (asked when its digits end, behind two at the latest)");
        T.due("0, the end", Calls.debts(x, "a>b0"), -3003);
        T.due("0, a ;", Calls.debts(x, "a>b0;a>b"), -3003);
        T.due("0, what can't stand there", Calls.debts(x, "a>b0k"), -3003);
        T.due("00", Calls.debts(x, "a>b00"), -3003);
        T.due("00, a third digit", Calls.debts(x, "a>b000"), -3003);
        T.due("00, another third digit", Calls.debts(x, "a>b001"), -3003);
        T.due("of a later LINE", Calls.debts(x, "a>b12;b>a00"), -3009);
        T.due("they stay", x.owes(0, 1), 90);
    }

    private static void debtsAddedUp() {
        T.says("of LINES for the same two all added up (99 at most)");
        OneCoin x = Calls.people(3);
        T.due("98 and 1", Calls.debts(x, "a>b98;a>b"), 99);
        T.due("99 and 1", Calls.debts(x, "a>b99;a>b"), 99);
        T.due("99 and 99", Calls.debts(x, "a>b99;a>b99"), 99);
        T.due("three times", Calls.debts(x, "a>b33;a>b33;a>b33"), 99);
        T.due("four times", Calls.debts(x, "a>b33;a>b33;a>b33;a>b33"), 99);
        T.due("others are others", Calls.debts(x, "a>b60;b>a60;a>c60;a>b38"), 98 + 60 + 60);
        T.says("In place of all before");
        T.due("one of them again", Calls.debts(x, "a>c2"), 2);
        T.due("a>b is gone", x.owes(0, 1), 0);
        T.due("b>a is gone", x.owes(1, 0), 0);
        T.due("a>c is not added to", x.owes(0, 2), 2);
    }

    private static void debtsFaultOrder() {
        T.says("FAULTS, the first from the left");
        OneCoin x = Calls.people(2);
        T.due("7 ahead of a wrong sign", Calls.debts(x, "c<b"), -7000);
        T.due("a wrong sign ahead of 7", Calls.debts(x, "a<c"), -1001);
        T.due("6 ahead of 3", Calls.debts(x, "a>a0"), -6002);
        T.due("7 ahead of 3", Calls.debts(x, "a>c0"), -7002);
        T.due("3 ahead of 7", Calls.debts(x, "a>b0;c>a"), -3003);
        T.due("7 of the first letter", Calls.debts(x, "j>a"), -7000);
        T.due("7 of the second letter", Calls.debts(x, "a>j"), -7002);
        T.says("6 one to itself, at the second letter (behind 7)");
        T.due("a>a", Calls.debts(x, "a>a"), -6002);
        T.due("b>b of a second LINE", Calls.debts(x, "a>b;b>b"), -6006);
        T.due("c>c: not told, at its first letter", Calls.debts(x, "c>c"), -7000);
        T.due("no DEBTS", x.count(1), 0);
        x.person(9, 0, 0);
        T.due("a>j, when j is told", Calls.debts(x, "a>j"), 1);
        T.due("j>j, when j is told", Calls.debts(x, "j>j"), -6002);
        T.due("j>c, when j is told", Calls.debts(x, "j>c"), -7002);
    }

    // ---- THE LAW

    private static void lawBytes() {
        T.says("THE LAW: a TEXT of at most 240 bytes, no blanks (none at first)");
        OneCoin x = Calls.people(2);
        T.due("none", x.count(9), 0);
        String full = "e1(1=1" + times("|1=1", 57) + "|11=1)";
        T.due("bytes", full.length(), 240);
        T.due("law of 240 bytes", Calls.law(x, full), 1);
        Calls.feed(x, full + ";s(1=1)");
        T.due("law of 241 bytes", x.law(241), -1);
        T.due("the tape stays", x.count(10), 260);
        T.due("the first 240 of them", x.law(240), 1);
        T.due("empty then, with the bytes behind", x.count(10), 0);
        Calls.feed(x, "e1(1=1);e12345(1=11)");
        T.due("one more than the tape has", x.law(21), -1);
        T.due("no byte", x.law(0), -1);
        T.due("as many as the tape has", x.law(20), 2);
        Calls.feed(x, "e1(1=1)");
        T.due("one byte", x.law(1), -1001);
        T.due("a FAULT empties it, too", x.count(10), 0);
        T.due("the one before stays", x.count(9), 2);
        String text = "e1(h=c)";
        for (int k = 0; k <= text.length(); k++) {
            T.due("a blank at " + k, Calls.law(x, text.substring(0, k) + " " + text.substring(k)), -1000 - k);
        }
    }

    private static void lawRules() {
        T.says("RULES (16 at most) with a ; (59) between two");
        OneCoin x = Calls.people(2);
        String sixteen = without(times("s(1=1);", 16), 1);
        T.due("16 RULES", Calls.law(x, sixteen), 16);
        T.due("15 RULES", Calls.law(x, without(sixteen, 7)), 15);
        T.due("none ahead of the first", Calls.law(x, ";s(1=1)"), -1000);
        T.due("none behind the last", Calls.law(x, "s(1=1);"), -1007);
        T.due("one between two", Calls.law(x, "s(1=1);;s(1=1)"), -1007);
        T.due("58 is no ;", Calls.law(x, "s(1=1):s(1=1)"), -1006);
        T.due("60 is no ;", Calls.law(x, "s(1=1)<s(1=1)"), -1006);
        T.due("the one before stays", x.count(9), 15);
        T.says("4 a 17th RULE, at its letter (if that can stand there)");
        for (String rule : new String[] {"e1(1=1)", "i1(1=1)", "r1(1=1)", "s(1=1)", "e", "s1"}) {
            T.due("a 17th " + rule, Calls.law(x, sixteen + ";" + rule), -4112);
        }
        for (String rule : new String[] {"h1(1=1)", "d", "f", "q", "t", "(", ";", "1", ""}) {
            T.due("no 17th " + rule, Calls.law(x, sixteen + ";" + rule), -1112);
        }
        T.due("a FAULT ahead of it", Calls.law(x, without(sixteen, 1) + ";e1(1=1)"), -1110);
        T.says("a letter, E, and (C), of s only (C)");
        T.due("e without E", Calls.law(x, "e(1=1)"), -1001);
        T.due("i without E", Calls.law(x, "i(1=1)"), -1001);
        T.due("r without E", Calls.law(x, "r(1=1)"), -1001);
        T.due("s with E", Calls.law(x, "s1(1=1)"), -1001);
        T.due("s with [E]", Calls.law(x, "s[1](1=1)"), -1001);
        T.due("e without (C)", Calls.law(x, "e1"), -1002);
        T.due("s without (C)", Calls.law(x, "s"), -1001);
        T.due("an empty (C)", Calls.law(x, "s()"), -1002);
        T.due("an E as a C", Calls.law(x, "s(1)"), -1003);
        T.due("a TEST of three E", Calls.law(x, "s(1<2<3)"), -1005);
    }

    private static void lawDigits() {
        T.says("a number of one to five digits; 2 a sixth digit, at it");
        OneCoin x = Calls.people(2);
        T.due("five of E", Calls.law(x, "e12345(1=1)"), 1);
        T.due("six of E", Calls.law(x, "e123456(1=1)"), -2006);
        T.due("six of E, the end", Calls.law(x, "e123456"), -2006);
        T.due("five and the end", Calls.law(x, "e12345"), -1006);
        T.due("seven of E", Calls.law(x, "e1234567(1=1)"), -2006);
        T.due("six noughts", Calls.law(x, "e000000(1=1)"), -2006);
        T.due("of a second FACTOR", Calls.law(x, "e1+h*00000-123456(1=1)"), -2016);
        T.due("in [E]", Calls.law(x, "e[123456](1=1)"), -2007);
        T.due("ahead of =", Calls.law(x, "s(123456=1)"), -2007);
        T.due("behind =", Calls.law(x, "s(1=123456)"), -2009);
        T.due("five both ways", Calls.law(x, "s(99999=99999)"), 1);
        T.due("no digit: 47", Calls.law(x, "e12/345678(1=1)"), -2009);
        T.due("no digit: 58", Calls.law(x, "e1:(1=1)"), -1002);
        T.due("a letter behind a number", Calls.law(x, "e12345h(1=1)"), -1006);
        T.due("a number behind a letter", Calls.law(x, "eh1(1=1)"), -1002);
        T.due("a number behind ]", Calls.law(x, "e[1]1(1=1)"), -1004);
        T.due("a sign ahead of a number", Calls.law(x, "e-1(1=1)"), -1001);
    }

    private static void lawOpen() {
        T.says("5 a seventh of ( [ ! that are open in one another, at it");
        OneCoin x = Calls.people(2);
        T.says("(the ( of the RULE counts)");
        T.due("six (", Calls.law(x, "s((((((1=1))))))"), 1);
        T.due("seven (", Calls.law(x, "s(((((((1=1)))))))"), -5007);
        T.due("six with [", Calls.law(x, "s([[[[[1]]]]]=1)"), 1);
        T.due("seven with [", Calls.law(x, "s([[[[[[1]]]]]]=1)"), -5007);
        T.due("six with !", Calls.law(x, "s(!!!!!1=1)"), 1);
        T.due("seven with !", Calls.law(x, "s(!!!!!!1=1)"), -5007);
        T.due("six of all", Calls.law(x, "s(!(!([h]=1)))"), 1);
        T.due("a seventh [", Calls.law(x, "s(!(!([[h]]=1)))"), -5007);
        T.due("a seventh !", Calls.law(x, "s(!(!((!h=1))))"), -5007);
        T.due("a seventh (", Calls.law(x, "s(!(!(((h=1)))))"), -5007);
        T.due("a seventh [ behind =", Calls.law(x, "s(!(!((1=[h]))))"), -5009);
        T.due("the seventh is the end", Calls.law(x, "s((((((("), -5007);
        T.says("(the E of a RULE stands ahead of it)");
        T.due("six [", Calls.law(x, "e[[[[[[1]]]]]](1=1)"), 1);
        T.due("seven [", Calls.law(x, "e[[[[[[[1]]]]]]](1=1)"), -5007);
        T.due("six, twice, and six in the C", Calls.law(x, "e[[[[[[1]]]]]]+[[[[[[1]]]]]]((((([1]=1)))))"), 1);
        T.due("of a second RULE", Calls.law(x, "s(1=1);i1-[[[[[[[1]]]]]]](1=1)"), -5016);
        T.says("1 what can't stand there, ahead of 5");
        T.due("a ( in an E", Calls.law(x, "e[[[[[[("), -1007);
        T.due("a ! in an E", Calls.law(x, "e[[[[[[!"), -1007);
        T.due("a ( behind =", Calls.law(x, "s((((((1=("), -1009);
    }

    private static void lawEndOfATest() {
        T.says("a ! is open till its TEST ends");
        OneCoin x = Calls.people(2);
        T.due("an E is open in it", Calls.law(x, "s(!!!!!1=[1])"), -5009);
        T.due("an E of four ! behind =", Calls.law(x, "s(!!!!1=[1])"), 1);
        T.due("ended by &", Calls.law(x, "s(!!!!!1=1&!!!!!1=1&[[[[[1]]]]]=1)"), 1);
        T.due("ended by |", Calls.law(x, "s(!!!!!1=1|!!!!!1=1|[[[[[1]]]]]=1)"), 1);
        T.due("ended by )", Calls.law(x, "s((!!!!1=1)&(!!!!1=1))"), 1);
        T.due("not ended by the ) in it", Calls.law(x, "s(!!!!(1=1)&!!!!(1=1))"), 1);
        T.due("a ( in four !, a [ in it", Calls.law(x, "s(!!!!(1=[1]))"), -5009);
        T.due("a (C) ends its TEST", Calls.law(x, "s(!(!(!1=1)&1=1)&!(!(!1=1)))"), 1);
        T.due("a closed [ is open no more", Calls.law(x, "s([[[[[1]]]]]=[[[[[1]]]]]+[[[[[1]]]]])"), 1);
        T.due("a closed RULE is open no more", Calls.law(x, "s((((((1=1))))));s((((((1=1))))))"), 1 + 1);
    }

    /** A byte that can stand nowhere, put at each place of a good text of each kind. */
    private static void lawEveryPlace() {
        T.says("1 what can't stand there");
        OneCoin x = Calls.people(10);
        x.coin(0);
        String law = "e[1+h]*2(!(1<2|3=3)&4>t);s(1=1)";
        String debts = "a>b12;j>a3;b>c";
        String route = "2(a3(bc)d)e9j";
        int asked = 0;
        for (char never : NEVER.toCharArray()) {
            // an object is used for at most 512 calls
            OneCoin each = asked++ % 2 == 0 ? Calls.people(10) : Calls.people(3);
            for (int k = 0; k < law.length(); k++) {
                T.due("law, " + (int) never + " at " + k, Calls.law(each, changed(law, k, never)), -1000 - k);
            }
            OneCoin other = Calls.people(10);
            for (int k = 0; k < debts.length(); k++) {
                T.due("debts, " + (int) never + " at " + k, Calls.debts(other, changed(debts, k, never)), -1000 - k);
            }
            for (int k = 0; k < route.length(); k++) {
                T.due("route, " + (int) never + " at " + k, Calls.route(other, changed(route, k, never), 0), -1000 - k);
            }
        }
        T.due("a good law", Calls.law(x, law), 2);
        T.due("good debts", Calls.debts(x, debts), 16);
        T.due("a good route", Calls.route(x, route, 0), 0);
    }

    private static String changed(String text, int place, char to) {
        return text.substring(0, place) + to + text.substring(place + 1);
    }

    // ---- a ROUTE

    private static void routeBytes() {
        T.says("A ROUTE: a TEXT of at most 60 bytes, no blanks");
        OneCoin x = Calls.holding(2, "a>b40;b>a40");
        String full = times("ba", 30);
        T.due("60 bytes", Calls.route(x, full, 0), 60);
        Calls.feed(x, full + "b");
        T.due("route of 61 bytes", x.route(61, 0), -1);
        T.due("walk of 61 bytes", x.walk(61), -1);
        T.due("the tape stays", x.count(10), 80);
        T.due("the first 60 of them", x.route(60, 0), 60);
        T.due("empty then, with the bytes behind", x.count(10), 0);
        Calls.feed(x, times("ba", 10));
        T.due("one more than the tape has", x.route(21, 0), -1);
        T.due("one more than the tape has", x.walk(21), -1);
        T.due("no byte", x.route(0, 0), -1);
        T.due("no byte", x.walk(0), -1);
        T.due("as many as the tape has", x.walk(20), 20);
        Calls.feed(x, "baba");
        T.due("one byte", x.walk(1), 1);
        T.due("empty then, with the bytes behind", x.count(10), 0);
        T.due("none is there", x.walk(1), -1);
        T.due("none is there", x.route(1, 0), -1);
        String text = "2(a3b)c";
        for (int k = 0; k <= text.length(); k++) {
            String blank = text.substring(0, k) + " " + text.substring(k);
            T.due("route, a blank at " + k, Calls.route(x, blank, 0), -1000 - k);
            T.due("walk, a blank at " + k, Calls.walk(x, blank), -1000 - k);
        }
    }

    private static void routeDigits() {
        T.says("ahead of each perhaps a digit 2 to 9 (so many times)");
        OneCoin x = Calls.holding(2, "a>b40;b>a40");
        for (int times = 2; times <= 9; times++) {
            T.due(times + " times", Calls.route(x, times + "(ba)", 0), 2 * times);
            T.due(times + " times, then not owed", Calls.route(x, times + "b", 0), 1);
        }
        T.due("0", Calls.route(x, "0b", 0), -1000);
        T.due("1", Calls.route(x, "1b", 0), -1000);
        T.due("0 of a (", Calls.route(x, "b0(a)", 0), -1001);
        T.due("1 of a (", Calls.route(x, "b1(a)", 0), -1001);
        T.due("58", Calls.route(x, ":b", 0), -1000);
        T.due("two digits", Calls.route(x, "22b", 0), -1001);
        T.due("a digit behind", Calls.route(x, "b2", 0), -1002);
        T.due("a digit ahead of )", Calls.route(x, "(b2)", 0), -1003);
        T.due("a digit alone", Calls.route(x, "9", 0), -1001);
        T.says("a letter a to j");
        T.due("j", Calls.route(x, "j", 0), 0);
        T.due("k", Calls.route(x, "k", 0), -1000);
        T.due("96", Calls.route(x, "`", 0), -1000);
        T.due("A", Calls.route(x, "A", 0), -1000);
    }

    private static void routeBrackets() {
        T.says("(PAYINGS) likewise (one at least)");
        OneCoin x = Calls.holding(2, "a>b9;b>a9");
        T.due("()", Calls.route(x, "()", 0), -1001);
        T.due("b()", Calls.route(x, "b()", 0), -1002);
        T.due("3()", Calls.route(x, "3()", 0), -1002);
        T.due("(())", Calls.route(x, "(())", 0), -1002);
        T.due("(b)", Calls.route(x, "(b)", 0), 1);
        T.due("(b)(a)", Calls.route(x, "(b)(a)", 0), 2);
        T.due("(b", Calls.route(x, "(b", 0), -1002);
        T.due("(", Calls.route(x, "(", 0), -1001);
        T.due("b)", Calls.route(x, "b)", 0), -1001);
        T.due(")", Calls.route(x, ")", 0), -1000);
        T.due("(b))", Calls.route(x, "(b))", 0), -1003);
        T.says("One that is not told, or not owed, is no fault: there the ROUTE ends");
        T.due("not told", Calls.route(x, "bcab", 0), 1);
        T.due("not told, the HOURS", Calls.route(x, "bcab", 1), 1);
        T.due("not told, who HOLDS it", Calls.route(x, "bcab", 2), 1);
        T.due("not owed", Calls.route(x, "bbab", 0), 1);
        T.due("the first not owed", Calls.walk(x, "ab"), 0);
        T.due("a HOLDS it", x.count(2), 0);
        x.debt(1, 0, 2);
        T.due("owed till there are none", Calls.walk(x, "9(ba)"), 5);
    }

    private static void routeNested() {
        T.says("5 a third ( that is open in another one, at it");
        OneCoin x = Calls.holding(2, "a>b9;b>a9");
        T.due("two", Calls.route(x, "((b))", 0), 1);
        T.due("two, twice", Calls.route(x, "((b)(a))((b))", 0), 3);
        T.due("three", Calls.route(x, "(((b)))", 0), -5002);
        T.due("three with digits, at the (", Calls.route(x, "2(2(2(b)))", 0), -5005);
        T.due("three with letters", Calls.route(x, "b(a(b(a)))", 0), -5005);
        T.due("closed ones are open no more", Calls.route(x, "((b)((a)))", 0), -5005);
        T.due("the third is the end", Calls.route(x, "(((", 0), -5002);
        T.due("a FAULT ahead of it", Calls.route(x, "()(((", 0), -1001);
    }

    private static void routeSixty() {
        T.says("60 at most in all; 6 more than 60, at the first byte of what (or its digit) by which they are");
        OneCoin x = Calls.holding(2, "a>b40;b>a40");
        T.due("60", Calls.route(x, "9b9b9b9b9b9b6b", 0), 1);
        T.due("61 by a digit", Calls.route(x, "9b9b9b9b9b9b7b", 0), -6012);
        T.due("61 by a letter", Calls.route(x, "9b9b9b9b9b9b6bb", 0), -6014);
        T.due("62 by a digit", Calls.route(x, "9b9b9b9b9b9b6b2b", 0), -6014);
        T.due("60 by a (", Calls.route(x, "6(9ba)", 0), 1);
        T.due("63 by a (", Calls.route(x, "7(9b)", 0), -6000);
        T.due("61 by a ( without a digit, by its letter", Calls.route(x, "6(9ba)(b)", 0), -6007);
        T.due("30 twice", Calls.route(x, "2(3(9ba))", 0), 1);
        T.due("31 twice", Calls.route(x, "2(3(9ba)b)", 0), -6000);
        T.due("60 payings can be", Calls.route(x, "5(6(ba))", 0), 60);
        T.due("behind a ( by which they are 54", Calls.route(x, "2(9b9b9b)9b9b9b", 0), -6009);
    }

    private static void routeSixtyInner() {
        T.says("(asked when it ends; of an inner one first)");
        OneCoin x = Calls.holding(2, "a>b40;b>a40");
        T.due("what can't stand there comes first", Calls.route(x, "7(9b", 0), -1004);
        T.due("a third ( comes first", Calls.route(x, "7(9b((", 0), -5005);
        T.due("an inner one", Calls.route(x, "2(9(9b))", 0), -6002);
        T.due("an inner one behind others", Calls.route(x, "9b2(6(9b))", 0), -6004);
        T.due("an inner letter", Calls.route(x, "9b9b9b9b9b9b2(6bb)", 0), -6016);
        T.due("not an inner one", Calls.route(x, "9b2(3(9b)a)", 0), -6002);
        T.due("behind it nothing is asked", Calls.route(x, "7(9b)k", 0), -6000);
        T.due("one ahead of k", Calls.route(x, "6(9b)7bk", 0), -6005);
    }

    // ---- the end

    /** Each beginning of a good text: good where the text may end, else the FAULT 1 of the end. */
    private static void everyPrefix() {
        T.says("1 what can't stand there (the end, too)");
        OneCoin x = Calls.people(10);
        String law = "e[1+h]*2(!(1<2|3=3)&4>t);s(1=1)";
        for (int n = 1; n <= law.length(); n++) {
            int want = n == 24 ? 1 : n == 31 ? 2 : -1000 - n;
            T.due("law " + law.substring(0, n), Calls.law(x, law.substring(0, n)), want);
        }
        String debts = "a>b12;j>a3;b>c";
        int[] owed = {0, 0, 0, 1, 1, 12, 0, 0, 0, 13, 15, 0, 0, 0, 16};
        for (int n = 1; n <= debts.length(); n++) {
            T.due("debts " + debts.substring(0, n), Calls.debts(x, debts.substring(0, n)),
                owed[n] > 0 ? owed[n] : -1000 - n);
        }
        x.coin(0);
        String route = "b2(a3(bc)d)e9j";
        boolean[] good = new boolean[15];
        good[1] = true;
        good[11] = true;
        good[12] = true;
        good[14] = true;
        for (int n = 1; n <= route.length(); n++) {
            T.due("route " + route.substring(0, n), Calls.route(x, route.substring(0, n), 0), good[n] ? 1 : -1000 - n);
        }
    }
}
