/** Boundary cases that "Terms" names: ranges, the rule, echoes, what is refused, what questions leave. */
public final class TermsEdgesTest {
    private static final Due DUE = new Due();

    public static void main(String[] args) {
        cavernsAreZeroToSeven();
        passagesAreAtMostTwelve();
        severalBetweenTheSameTwo();
        atFirst();
        wearIsZeroToNine();
        delayAndBendAreTold();
        theRuleAtFirst();
        comparisons();
        fromTheLeft();
        byZero();
        cutToZero();
        minusAhead();
        numbersOfDigits();
        bracketsInOneAnother();
        thingsOfALetter();
        hourBySeven();
        backwards();
        asInts();
        restByEight();
        echoEndsWhereMade();
        echoEndsWithoutPassage();
        echoTakesTheLeast();
        echoByAllTwelve();
        allAsAtFirst();
        rowsAreComparedFromTheFirst();
        fractions();
        questionsChangeNothing();
        refusedCallsChangeNothing();
        refusedCallsEmptyTheTextTheyRead();
        callsThatReadEmptyTheText();
        DUE.close();
    }

    // "CAVERNS 0 .. 7."
    private static void cavernsAreZeroToSeven() {
        CaveAdvice x = Due.cave("0711");
        DUE.is("CAVERN 0 is one", x.route(0, 0), 7);
        DUE.is("CAVERN 7 is one", x.route(7, 0), 0);
        DUE.is("CAVERN 7 has its PASSAGE", x.cavern(7, 0), 1);
        DUE.is("all that are JOINED to 7", x.cavern(7, 1), 129);
        for (int c : Edges.outside(0, 7)) {
            DUE.isThrown("no CAVERN " + c, () -> x.cavern(c, 0));
            DUE.is("no ECHO from " + c, x.route(c, 0), -1);
            DUE.is("no longest ECHO from " + c, x.longest(c), -1);
            DUE.is("no way from " + c, x.way(c, 0), -1);
            DUE.is("no way to " + c, x.way(0, c), -1);
        }
    }

    // "PASSAGES 0 .. (at most 12)"
    private static void passagesAreAtMostTwelve() {
        CaveAdvice x = Due.cave("0110;0120;0130;0140;0150;0160;0170;0180;0190;1211;1212;6798");
        DUE.is("twelve", x.count(0), 12);
        DUE.is("the last of twelve", x.passage(11, 3), 8);
        DUE.is("an ECHO into the last of twelve", x.route(6, 11), 7);
        DUE.is("bit 11", x.cavern(6, 0), 1 << 11);
        DUE.is("no thirteenth", Due.text(x, "0110").passages(), -1);
        DUE.is("still twelve", x.count(0), 12);
        DUE.is("the last one falls in", x.falls(11), 11);
        DUE.is("the last one is dug otherwise", x.digs(11, 1, 1), 198);
        for (int q : Edges.outside(0, 11)) {
            DUE.isThrown("no PASSAGE " + q, () -> x.passage(q, 0));
            DUE.is("no ECHO into " + q, x.route(0, q), -1);
            DUE.is("none falls in: " + q, x.falls(q), -1);
            DUE.is("none is dug: " + q, x.digs(q, 1, 1), -1);
        }
    }

    // "each between two different CAVERNS, ONE and OTHER (several can be between the same two)"
    private static void severalBetweenTheSameTwo() {
        DUE.is("three between the same two", Due.text(new CaveAdvice(), "3440;4340;3440").passages(), 3);
        for (int c = 0; c < 8; c++) {
            DUE.is("not between one and itself", Due.text(new CaveAdvice(), "" + c + c + "11").passages(), -2);
        }
    }

    // "WEAR 0 .. 9 (at first 0), OPEN or not (at first so)"; "HOUR (at first 0), CALLED 0 .. 999 (at first 0)"
    private static void atFirst() {
        CaveAdvice x = Due.cave("0110;6795");
        for (int q = 0; q < 2; q++) {
            DUE.is("WEAR at first 0", x.passage(q, 4), 0);
            DUE.is("OPEN at first", x.passage(q, 5), 1);
        }
        DUE.is("HOUR at first 0", x.count(2), 0);
        DUE.is("CALLED at first 0", x.count(3), 0);
    }

    // "WEAR 0 .. 9"
    private static void wearIsZeroToNine() {
        CaveAdvice x = Due.cave("0110");
        x.sheet(2, 1, 8, 0);
        Due.text(x, "a").calls(0, 0);
        DUE.is("from 8 to 9", x.passage(0, 4), 9);
        Due.text(x, "a").calls(1, 0);
        DUE.is("9 stays 9", x.passage(0, 4), 9);
        x.hours(8);
        DUE.is("from 9 to 1", x.passage(0, 4), 1);
        x.hours(2);
        DUE.is("from 1 by 2 to 0", x.passage(0, 4), 0);
    }

    // "DELAY 1 .. 9 (minutes), BEND 0 .. 9"
    private static void delayAndBendAreTold() {
        CaveAdvice x = Due.cave("0110;0199");
        DUE.is("DELAY 1", x.passage(0, 2), 1);
        DUE.is("BEND 0", x.passage(0, 3), 0);
        DUE.is("DELAY 9", x.passage(1, 2), 9);
        DUE.is("BEND 9", x.passage(1, 3), 9);
        DUE.is("DELAY not 0", Due.text(new CaveAdvice(), "0109").passages(), -3);
    }

    // "(at first none: v+b-w/3)"
    private static void theRuleAtFirst() {
        for (int wear = 0; wear <= 9; wear++) {
            for (int bend = 0; bend <= 9; bend++) {
                CaveAdvice x = Due.cave("013" + bend);
                x.sheet(2, 1, wear, 0);
                x.hours(0);
                Due.text(x, "ah").hears(1, 0);
                int change = bend - wear / 3;
                DUE.row("no rule, BEND " + bend + ", WEAR " + wear, x, change & 7, 7 + change & 7);
            }
        }
    }

    /** What a letter d (3) becomes by a rule at place 0; BEND 9, WEAR 2, DELAY 5, HOUR 0, from ONE to OTHER. */
    private static void becomes(String sentence, String rule, int want) {
        CaveAdvice x = Due.cave("0159");
        x.sheet(2, 1, 2, 0);
        DUE.is(sentence + ": " + rule + " is one", Due.text(x, rule).rule(), 0);
        Due.text(x, "d").hears(0, 0);
        DUE.row(sentence + ": " + rule, x, Math.floorMod(want, 8));
    }

    private static void isNoRule(String sentence, String rule, int at) {
        CaveAdvice x = new CaveAdvice();
        DUE.is(sentence + ": " + rule, Due.text(x, rule).rule(), -1 - at);
        DUE.is(sentence + ", as a law: " + rule, Due.text(x, rule).law(), -10000 - at);
    }

    // "< > = bind least (two; 1 or 0; not one behind the other)"
    private static void comparisons() {
        String s = "< > = bind least";
        becomes(s, "v<4", 1);
        becomes(s, "v<3", 0);
        becomes(s, "v>2", 1);
        becomes(s, "v>3", 0);
        becomes(s, "v=3", 1);
        becomes(s, "v=2", 0);
        becomes(s, "1+v=2*2", 1);
        becomes(s, "4=v+1", 1);
        becomes(s, "6-v<v+1", 1);
        becomes(s, "-v<-2", 1);
        for (char first : "<>=".toCharArray()) {
            isNoRule("two", "v" + first, 2);
            isNoRule("two", "" + first + "v", 0);
            isNoRule("two", "(v" + first + ")", 3);
            for (char second : "<>=".toCharArray()) {
                isNoRule("not one behind the other", "v" + first + "b" + second + "w", 3);
                isNoRule("not one behind the other", "v" + first + "b+1" + second + "w", 5);
                isNoRule("not one behind the other", "v" + first + second + "b", 2);
                isNoRule("not one behind the other", "(v" + first + "b" + second + "w)", 4);
                isNoRule("not one behind the other", "v" + first + "(b)" + second + "w", 5);
                isNoRule("not one behind the other", "v" + first + "(b" + first + "w)" + second + "w", 7);
            }
        }
        becomes("in ( ) again", "(v<4)<(v<3)", 0);
        becomes("in ( ) again", "(v<4)=(v>2)", 1);
        becomes("in ( ) again", "7*((v=3)>(v=4))", 7);
        becomes("in ( ) again", "(v<b)+(w<v)+(w=2)", 3);
    }

    // "+ - (from the left), then * / (from the left ...)"
    private static void fromTheLeft() {
        String s = "from the left";
        becomes(s, "7-3-2", 2);
        becomes(s, "7-3+2", 6);
        becomes(s, "7/2*2", 6);
        becomes(s, "2*7/4", 3);
        becomes(s, "60/6/5", 2);
        becomes(s, "1+2*3", 7);
        becomes(s, "7-2*3", 1);
        becomes(s, "9-6/3", 7);
        isNoRule("two of each", "v+*b", 2);
        isNoRule("two of each", "v*+b", 2);
        isNoRule("two of each", "v-/b", 2);
        isNoRule("two of each", "+v", 0);
        isNoRule("two of each", "/v", 0);
        isNoRule("two of each", "v-", 2);
        isNoRule("two of each", "v*", 2);
        isNoRule("two of each", "v)", 1);
        isNoRule("two of each", "v b", 1);
        isNoRule("two of each", "vb", 1);
    }

    // "(... by 0: 0 ...)"
    private static void byZero() {
        String s = "by 0: 0";
        becomes(s, "v/0", 0);
        becomes(s, "0/0", 0);
        becomes(s, "-v/0", 0);
        becomes(s, "6+v/(w-2)", 6);
        becomes(s, "7/(v-3)+1", 1);
        becomes(s, "5/000", 0);
        becomes(s, "9*9/0*9", 0);
    }

    // "(... cut to 0)"
    private static void cutToZero() {
        String s = "cut to 0";
        becomes(s, "7/2", 3);
        becomes(s, "-7/2", -3);
        becomes(s, "7/-2", -3);
        becomes(s, "-7/-2", 3);
        becomes(s, "-1/2", 0);
        becomes(s, "(0-7)/2", -3);
    }

    // "- ahead of a thing (any many)"
    private static void minusAhead() {
        String s = "any many - ahead of a thing";
        becomes(s, "-v", -3);
        becomes(s, "--v", 3);
        becomes(s, "---v", -3);
        becomes(s, "-".repeat(39) + "v", -3);
        becomes(s, "-".repeat(38) + "v", 3);
        becomes(s, "v--v", 6);
        becomes(s, "v---v", 0);
        becomes(s, "2*--v", 6);
        becomes(s, "-(v-1)", -2);
        becomes(s, "-(-v)", 3);
        becomes(s, "v<-1", 0);
        becomes("it binds most", "-7/2*2", -6);
        becomes("it binds most", "-1-1", -2);
        isNoRule(s, "-", 1);
        isNoRule(s, "-".repeat(40), 40);
        isNoRule(s, "--)", 2);
    }

    // "a NUMBER of 1 to 3 digits"
    private static void numbersOfDigits() {
        String s = "a NUMBER of 1 to 3 digits";
        becomes(s, "0", 0);
        becomes(s, "9", 9);
        becomes(s, "10", 10);
        becomes(s, "99", 99);
        becomes(s, "100", 100);
        becomes(s, "999", 999);
        becomes(s, "007", 7);
        becomes(s, "1+999-990", 10);
        becomes(s, "999/123", 8);
        isNoRule(s, "1000", 3);
        isNoRule(s, "0000", 3);
        isNoRule(s, "v+1234", 5);
        isNoRule(s, "(1234)", 4);
        isNoRule(s, "v1", 1);
        isNoRule(s, "1v", 1);
        isNoRule(s, "(v)1", 3);
        isNoRule(s, "(1)2", 3);
        isNoRule(s, "(12)3", 4);
        isNoRule(s, "((1))2", 5);
        isNoRule(s, "1(v)", 1);
        isNoRule(s, "/", 0);
        isNoRule(s, ":", 0);
        isNoRule(s, "1:", 1);
    }

    // "an EXPRESSION in ( ) (at most 4 in one another)"
    private static void bracketsInOneAnother() {
        String s = "( ) at most 4 in one another";
        becomes(s, "(v)", 3);
        becomes(s, "((((v))))", 3);
        becomes(s, "((((v))))*((((w))))", 6);
        becomes(s, "(((v)+((w))))", 5);
        becomes(s, "(v)+(v)+(v)+(v)+(v)", 15);
        isNoRule(s, "(((((v)))))", 4);
        isNoRule(s, "((((v+(w)))))", 6);
        isNoRule(s, "(((((", 4);
        isNoRule(s, "((((-(", 5);
        isNoRule(s, "()", 1);
        isNoRule(s, "(v", 2);
        isNoRule(s, "((((v)))", 8);
        isNoRule(s, "((((v)))))", 9);
        isNoRule(s, "(v))", 3);
        isNoRule(s, "(v)(w)", 3);
    }

    // "v the LETTER (0 .. 7), b BEND, w WEAR, d DELAY, p its place in the CALL (0 .. 5)"
    private static void thingsOfALetter() {
        CaveAdvice x = Due.withRule(Due.cave("0199;0110"), "p");
        Due.text(x, "hhhhhh").hears(0, 0);
        DUE.row("p 0 .. 5", x, 0, 1, 2, 3, 4, 5);
        Due.withRule(x, "v");
        Due.text(x, "ah").hears(0, 0);
        DUE.row("v 0 .. 7", x, 0, 7);
        String[] rules = {"b=9", "d=9", "w=9", "b=0", "d=1", "w=0"};
        for (int i = 0; i < rules.length; i++) {
            CaveAdvice y = Due.withRule(Due.cave(i < 3 ? "0199" : "0110"), rules[i]);
            y.sheet(2, 1, i < 3 ? 9 : 0, 0);
            Due.text(y, "c").hears(0, 0);
            DUE.row("the least and the most: " + rules[i], y, 1);
        }
        for (char sign : "acfghioqstuxyzVBWDPNE".toCharArray()) {
            isNoRule("no such thing", "" + sign, 0);
            isNoRule("no such thing", "v+" + sign, 2);
        }
    }

    // "n HOUR by 7 (rest)"
    private static void hourBySeven() {
        int[] hours = {0, 6, 7, 8, 13, 14, 60};
        for (int n : hours) {
            CaveAdvice x = Due.withRule(Due.cave("0110"), "n");
            x.hours(n);
            Due.text(x, "d").hears(0, 0);
            DUE.row("n at HOUR " + n, x, n % 7);
        }
        CaveAdvice late = Due.withRule(Due.cave("0110"), "n");
        for (int i = 1; i <= 60; i++) {
            late.hours(60);
            DUE.is("HOUR has no end", late.count(2), 60 * i);
            Due.text(late, "d").hears(0, 0);
            DUE.is("n at HOUR " + 60 * i, late.row(0), 60 * i % 7);
        }
    }

    // "e 1 if it goes from OTHER to ONE, else 0"
    private static void backwards() {
        CaveAdvice x = Due.withRule(Due.cave("0710"), "e");
        Due.text(x, "d").hears(0, 0);
        DUE.row("from ONE to OTHER", x, 0);
        Due.text(x, "d").hears(7, 0);
        DUE.row("from OTHER to ONE", x, 1);
        CaveAdvice y = Due.withRule(Due.cave("1010;1210;3210"), "v*2+e");
        Due.text(y, "a").hears(0, 0);
        DUE.row("from OTHER, from ONE, from OTHER", y, 5);
    }

    // "As ints"
    private static void asInts() {
        String s = "as ints";
        becomes(s, "999*999*999*999", 999 * 999 * 999 * 999);
        becomes(s, "512*512*512*16<0", 1);
        becomes(s, "512*512*512*16-1>0", 1);
        becomes(s, "-(512*512*512*16)<0", 1);
        becomes(s, "512*512*512*16/-1<0", 1);
        becomes(s, "512*512*512*16*2", 0);
        becomes(s, "512*512*512*16-1+1<0", 1);
        becomes("the - ahead first, as ints", "-(512*512*512*16)/2<0", 1);
        becomes(s, "512*512*512*16-1", -1);
        becomes(s, "512*512*512*16/7", Integer.MIN_VALUE / 7);
    }

    // "the rest by 8 (0 .. 7, also of numbers below 0)"
    private static void restByEight() {
        for (int n = 0; n <= 20; n++) {
            becomes("the rest by 8", "" + n, n);
            becomes("the rest by 8 below 0", "-" + n, -n);
        }
    }

    // "it ends when it comes to the CAVERN where it was made"
    private static void echoEndsWhereMade() {
        CaveAdvice x = Due.cave("0110;1010;0110");
        DUE.is("home by the second", x.route(0, 0), 0);
        DUE.row("not by the third", x, 2, 0, 1);
        DUE.is("home from 1", x.route(1, 2), 1);
        DUE.row("home from 1", x, 2, 2, 0);
    }

    // "or when there is no such PASSAGE"
    private static void echoEndsWithoutPassage() {
        CaveAdvice x = Due.cave("0110;1210;2110");
        DUE.is("1, 2, 1 and no more", x.route(0, 0), 1);
        DUE.row("1, 2, 1 and no more", x, 3, 0, 1, 2);
        x.falls(1);
        DUE.is("by another one, then no more", x.route(0, 0), 2);
        DUE.row("by another one, then no more", x, 2, 0, 2);
        x.falls(2);
        DUE.is("by the first alone", x.route(0, 0), 1);
        DUE.row("by the first alone", x, 1, 0);
        DUE.is("none to begin with", x.route(1, 2), -1);
        DUE.is("not OPEN", x.route(1, 1), -1);
        DUE.is("not an end of it", x.route(2, 0), -1);
    }

    // "the OPEN PASSAGE of that CAVERN with the least number by which it has not gone yet"
    private static void echoTakesTheLeast() {
        CaveAdvice x = Due.cave("1310;1290;0110;2310");
        DUE.is("the least, not the quickest", x.route(0, 2), 1);
        DUE.row("the least, not the quickest", x, 1 + 1 + 1 + 9, 2, 0, 3, 1);
        x.falls(0);
        x.route(0, 2);
        DUE.row("the least that is OPEN", x, 1 + 9 + 1, 2, 1, 3);
    }

    /** All twelve, one behind another, so that nothing is cut off. */
    private static void echoByAllTwelve() {
        CaveAdvice x = Due.withRule(Due.cave("0199;1299;2199;1299;2199;1299;2199;1299;2199;1299;2199;1299"), "v+1");
        DUE.is("all twelve", x.route(0, 0), 2);
        DUE.row("all twelve", x, 108, 0, 1, 2, 3, 4, 5, 6, 7, 8, 9, 10, 11);
        DUE.is("all twelve change a letter", Due.text(x, "a").calls(0, 0), 2);
        DUE.row("all twelve change a letter", x, 108, 4);
        DUE.is("all twelve wear", x.count(4), 12);
    }

    // "each LETTER becomes another one by each PASSAGE (all as is at first)"
    private static void allAsAtFirst() {
        CaveAdvice x = Due.withRule(Due.cave("0110;1010"), "v*4+w");
        x.sheet(2, 2, 2, 1);
        Due.text(x, "bb").calls(0, 0);
        DUE.row("WEAR as it was ahead of the call", x, 2, (4 + 2) * 4 + 3 & 7, (4 + 2) * 4 + 3 & 7);
        Due.text(x, "b").calls(0, 0);
        DUE.row("WEAR of the next call", x, 2, (4 + 3) * 4 + 4 & 7);
    }

    // "Rows are compared from the first number on."
    private static void rowsAreComparedFromTheFirst() {
        CaveAdvice x = Due.cave("1220;0240;0120;2320;0360");
        DUE.is("three as quick", x.way(0, 3), 6);
        DUE.row("1, 3 is less than 2, 0, 3 and 4", x, 1, 3);
        x.falls(1);
        x.way(0, 3);
        DUE.row("2, 0, 3 is less than 4", x, 2, 0, 3);
    }

    // "Fractions are told in lowest terms, upper and lower number (0 by 1)."
    private static void fractions() {
        CaveAdvice x = Due.cave("0111");
        long[][] lowest = {{0, 1}, {1, 10}, {1, 5}, {3, 10}, {2, 5}, {1, 2}, {3, 5}, {7, 10}, {4, 5}, {9, 10}, {1, 1}};
        for (int p = 0; p <= 10; p++) {
            x.hints(0, 0, 0, 0, p);
            DUE.row("in lowest terms, left: " + p, x, lowest[p]);
            x.hints(0, 0, 7, 0, p);
            DUE.row("in lowest terms, changed: " + p, x, lowest[10 - p]);
            x.hints(0, 0, 0, 2, p);
            DUE.row("0 by 1", x, 0, 1);
        }
    }

    // "Questions change nothing."
    private static void questionsChangeNothing() {
        Edges.Asked[] questions = {x -> x.passage(0, 4), x -> x.cavern(0, 2), x -> x.route(0, 0), x -> x.keeps(0, 0),
            x -> x.apart(0, 0, 6), x -> x.longest(0), x -> x.rounds(), x -> x.way(0, 2), x -> x.meets(0, 2), x -> x.heart(),
            x -> x.ropes(), x -> x.needed(), x -> x.tour(0, 6), x -> x.halves(), x -> x.guides(), x -> x.most(),
            x -> x.fits(), x -> x.next(), x -> x.laws(), x -> x.listens(), x -> x.hints(0, 0, 1, 2, 3), x -> x.game(60, 9),
            x -> x.rests(20), x -> x.years(1, 60), x -> x.years(-7, 60), x -> x.count(4), x -> x.row(0)};
        String before = Edges.lookThrough(Edges.worn());
        for (int i = 0; i < questions.length; i++) {
            CaveAdvice x = Edges.worn();
            DUE.holds("question " + i + " is answered", questions[i].answer(x) >= 0);
            DUE.holds("question " + i + " changes nothing", before.equals(Edges.lookThrough(x)));
        }
        Edges.Asked[] readers = {x -> Due.text(x, "hag").hears(0, 0), x -> Due.text(x, "hag").asks(0, 0),
            x -> Due.text(x, "a;b").becomes(), x -> Due.text(x, "v").law(), x -> Due.text(x, "").law() + 99};
        for (int i = 0; i < readers.length; i++) {
            CaveAdvice x = Edges.worn();
            DUE.holds("reader " + i + " is answered", readers[i].answer(x) >= 0);
            DUE.holds("reader " + i + " changes nothing", before.equals(Edges.lookThrough(Due.text(x, "hag"))));
        }
    }

    /** Calls that are refused in a worn cave whose text is hag. */
    private static final Edges.Asked[] REFUSED = {x -> x.hours(61), x -> x.hours(-1), x -> x.falls(4), x -> x.falls(-1),
        x -> x.digs(4, 1, 1), x -> x.digs(0, 0, 1), x -> x.digs(0, 1, 10), x -> x.digs(1, 7, 8), x -> x.route(4, 0),
        x -> x.keeps(0, 1), x -> x.apart(0, 0, 7), x -> x.apart(0, 0, 0), x -> x.longest(8), x -> x.longest(4),
        x -> x.way(0, 8), x -> x.way(0, 4), x -> x.meets(-1, 0), x -> x.meets(0, 4), x -> x.tour(0, 256), x -> x.tour(8, 0),
        x -> x.tour(0, 16), x -> x.told(5, 1), x -> x.told(0, 0), x -> x.heard(8, 0, 0), x -> x.heard(0, 10, 0),
        x -> x.hints(0, 0, 0, 0, 11), x -> x.hints(4, 0, 0, 0, 1), x -> x.game(61, 2), x -> x.game(5, 1), x -> x.rests(21),
        x -> x.years(1, 0), x -> x.years(1, 61), x -> x.keep(3) ? 1 : -1, x -> x.keep(-1) ? 1 : -1,
        x -> x.again(1) ? 1 : -1, x -> x.again(3) ? 1 : -1, x -> x.end(4) ? 1 : -1, x -> x.end(-1) ? 1 : -1,
        x -> x.sheet(4, 1, 1, 1), x -> x.sheet(0, 13, 1, 1), x -> x.sheet(0, -1, 1, 1), x -> x.count(11)};

    private static final Edges.Asked[] REFUSED_READERS = {x -> x.passages(), x -> x.rule(), x -> x.season(), x -> x.becomes(),
        x -> x.law(), x -> x.calls(4, 0), x -> x.calls(0, 4), x -> x.hears(4, 0), x -> x.hears(0, -1), x -> x.asks(4, 0),
        x -> x.asks(-1, 0)};

    // "Refused calls answer NONE, or false, and change nothing"
    private static void refusedCallsChangeNothing() {
        String row = Edges.rowOf(Edges.worn());
        String before = Edges.lookThrough(Edges.worn());
        for (int i = 0; i < REFUSED.length; i++) {
            CaveAdvice x = Edges.worn();
            DUE.holds("call " + i + " is refused", REFUSED[i].answer(x) < 0);
            DUE.holds("refused call " + i + " leaves the ROW", row.equals(Edges.rowOf(x)));
            DUE.holds("refused call " + i + " changes nothing", before.equals(Edges.lookThrough(x)));
        }
        for (int i = 0; i < REFUSED_READERS.length; i++) {
            CaveAdvice x = Edges.worn();
            DUE.holds("reader " + i + " is refused", REFUSED_READERS[i].answer(x) < 0);
            DUE.holds("refused reader " + i + " leaves the ROW", row.equals(Edges.rowOf(x)));
            DUE.holds("refused reader " + i + " changes nothing", before.equals(Edges.lookThrough(Due.text(x, "hag"))));
        }
    }

    // "... but THE TEXT, which a call that reads it empties."
    private static void refusedCallsEmptyTheTextTheyRead() {
        for (int i = 0; i < REFUSED_READERS.length; i++) {
            CaveAdvice x = Edges.worn();
            REFUSED_READERS[i].answer(x);
            DUE.is("refused reader " + i + " empties THE TEXT", x.count(10), 0);
        }
        Edges.Asked[] atFault = {x -> x.calls(0, 0), x -> x.hears(0, 0), x -> x.asks(0, 0)};
        for (Edges.Asked call : atFault) {
            CaveAdvice x = Due.text(Edges.worn(), "abcdefg");
            String row = Edges.rowOf(x);
            DUE.is("a seventh LETTER", call.answer(x), -7);
            DUE.is("it empties THE TEXT", x.count(10), 0);
            DUE.holds("it leaves the ROW", row.equals(Edges.rowOf(x)));
        }
        CaveAdvice full = Due.text(Edges.worn(), "a".repeat(78));
        DUE.is("sign() does not read it", full.sign(0), -1);
        DUE.is("it stays", full.count(10), 78);
    }

    private static void callsThatReadEmptyTheText() {
        String[] texts = {"4511", "v", "n1", "a", "a", "a", "a;b", "v"};
        Edges.Asked[] readers = {x -> x.passages(), x -> x.rule(), x -> x.season(), x -> x.calls(0, 0), x -> x.hears(0, 0),
            x -> x.asks(0, 0), x -> x.becomes(), x -> x.law() + 999};
        for (int i = 0; i < readers.length; i++) {
            CaveAdvice x = Due.text(Edges.worn(), texts[i]);
            DUE.holds("reader " + i + " takes " + texts[i], readers[i].answer(x) >= 0);
            DUE.is("reader " + i + " empties THE TEXT", x.count(10), 0);
        }
    }
}
