/** Boundary cases that promises 15 to 22 name, each sentence with a test of its own. */
public final class EchoEdgesTest {
    private static final Due DUE = new Due();

    public static void main(String[] args) {
        noRoute();
        shortestRoute();
        noneOrAllAsTheyAre();
        hearsFaults();
        asksOneToAll();
        asksNone();
        asksTheLeast();
        pairsOfWords();
        becomesByNone();
        becomesTheLeastPair();
        becomesEndsTooEarly();
        becomesSignsThatCantStand();
        becomesOneTooMany();
        keepsNoneAndAll();
        keepsRefused();
        apartOneToSix();
        apartOthers();
        longestOfEqualOnes();
        longestOfNone();
        longestNoneSuch();
        roundsOfNone();
        roundsOfAll();
        DUE.close();
    }

    // 15: "NONE: none can be made so."
    private static void noRoute() {
        CaveAdvice x = Edges.worn();
        String row = Edges.rowOf(x);
        for (int c : Edges.outside(0, 7)) {
            DUE.is("15: from " + c, x.route(c, 0), -1);
        }
        for (int q : Edges.outside(0, 3)) {
            DUE.is("15: into " + q, x.route(0, q), -1);
        }
        DUE.is("15: of which it is no end", x.route(2, 0), -1);
        DUE.is("15: not OPEN", x.route(0, 3), -1);
        DUE.is("15: no PASSAGES", new CaveAdvice().route(0, 0), -1);
        DUE.holds("15: the ROW stays", row.equals(Edges.rowOf(x)));
    }

    private static void shortestRoute() {
        CaveAdvice x = Due.cave("0710");
        DUE.is("15: one PASSAGE", x.route(7, 0), 0);
        DUE.row("15: one PASSAGE", x, 1, 0);
    }

    // 16: "how many of its LETTERS come out as they are"
    private static void noneOrAllAsTheyAre() {
        CaveAdvice x = Due.cave("0110;2311");
        for (int letters = 1; letters <= 6; letters++) {
            String call = "ahbgcf".substring(0, letters);
            DUE.is("16: all", Due.text(x, call).hears(0, 0), letters);
            DUE.is("16: as many numbers", x.count(9), letters);
            DUE.is("16: none", Due.text(x, call).hears(2, 1), 0);
            DUE.is("16: as many numbers", x.count(9), letters);
        }
        DUE.is("16: h by one more is a", Due.text(x, "h").hears(2, 1), 0);
        DUE.row("16: h by one more is a", x, 0);
    }

    // 16: "-1 - p, -100: as calls()."
    private static void hearsFaults() {
        CaveAdvice x = Edges.worn();
        String row = Edges.rowOf(x);
        DUE.is("16: -100 first", Due.text(x, "x").hears(4, 0), -100);
        DUE.is("16: none", Due.text(x, "").hears(0, 0), -1);
        DUE.is("16: a sign", Due.text(x, "abi").hears(0, 0), -3);
        DUE.is("16: a seventh", Due.text(x, "abcdefg").hears(0, 0), -7);
        DUE.holds("16: the ROW stays", row.equals(Edges.rowOf(x)));
        DUE.is("17: -100 first", Due.text(x, "x").asks(4, 0), -100);
        DUE.is("17: none", Due.text(x, "").asks(0, 0), -1);
        DUE.is("17: a sign", Due.text(x, "abi").asks(0, 0), -3);
        DUE.is("17: a seventh", Due.text(x, "abcdefg").asks(0, 0), -7);
        DUE.holds("17: the ROW stays", row.equals(Edges.rowOf(x)));
        DUE.holds("16, 17: nothing changes", Edges.lookThrough(Due.text(x, "hag")).equals(Edges.lookThrough(Edges.worn())));
    }

    // 17: "how many CALLS made so would come out as it"
    private static void asksOneToAll() {
        int all = 1;
        for (int letters = 1; letters <= 6; letters++) {
            all *= 8;
            CaveAdvice x = Due.withRule(Due.cave("0111"), "7");
            DUE.is("17: all of " + letters, Due.text(x, "hhhhhh".substring(0, letters)).asks(0, 0), all);
            DUE.is("17: the least of these", x.row(letters - 1), 0);
            DUE.is("17: as many LETTERS", x.count(9), letters);
            Due.withRule(x, "");
            DUE.is("17: one alone", Due.text(x, "ahahah".substring(0, letters)).asks(0, 0), 1);
            DUE.is("17: a is what h becomes", x.row(0), 7);
        }
    }

    // 17: "(nothing without)"
    private static void asksNone() {
        CaveAdvice x = Due.withRule(Due.cave("0111"), "v/2*2");
        String[] none = {"b", "ba", "ab", "aaaaab", "baaaaa", "hhhhhh"};
        for (String advice : none) {
            x.route(0, 0);
            DUE.is("17: none: " + advice, Due.text(x, advice).asks(0, 0), 0);
            DUE.row("17: nothing without", x);
        }
    }

    // 17: "the LETTERS of the least of these"
    private static void asksTheLeast() {
        CaveAdvice x = Due.withRule(Due.cave("0111"), "v/4*7");
        DUE.is("17: four each", Due.text(x, "ahha").asks(0, 0), 256);
        DUE.row("17: the least", x, 0, 4, 4, 0);
        Due.withRule(x, "-(v*v)");
        DUE.is("17: 3 and 5 among others", Due.text(x, "h").asks(0, 0), 4);
        DUE.row("17: the least", x, 1);
    }

    // 18: "a CALL, a ; and another one of as many LETTERS"
    private static void pairsOfWords() {
        CaveAdvice x = Due.cave("0711");
        for (int letters = 1; letters <= 6; letters++) {
            String first = "ahbgcf".substring(0, letters);
            String second = "bachdg".substring(0, letters);
            DUE.is("18: " + first + " becomes " + second, Due.text(x, first + ";" + second).becomes(), 2);
            DUE.row("18: the least pair", x, 0, 0);
            String other = second.substring(0, letters - 1) + "e";
            DUE.is("18: all of it, not " + other, Due.text(x, first + ";" + other).becomes(), 0);
            other = "e" + second.substring(1);
            DUE.is("18: all of it, not " + other, Due.text(x, first + ";" + other).becomes(), 0);
        }
    }

    // 18: "(nothing without)"
    private static void becomesByNone() {
        CaveAdvice x = Due.cave("0110");
        x.route(0, 0);
        DUE.is("18: none", Due.text(x, "a;b").becomes(), 0);
        DUE.row("18: nothing without", x);
        x.falls(0);
        x.rounds();
        DUE.is("18: none OPEN", Due.text(x, "a;a").becomes(), 0);
        DUE.row("18: nothing without", x);
        DUE.is("18: no PASSAGES", Due.text(new CaveAdvice(), "a;a").becomes(), 0);
    }

    // 18: "the least pair"
    private static void becomesTheLeastPair() {
        CaveAdvice x = Due.cave("7611;5411;6513");
        // 7 to 6 by 0, 6 to 5 by 2, 5 to 4 by 1: BENDS 1, 3, 1.
        DUE.is("18: from 5 by 1, from 6 by 0", Due.text(x, "a;b").becomes(), 2);
        DUE.row("18: of CAVERNS the least first", x, 5, 1);
        DUE.is("18: by all three", Due.text(x, "a;f").becomes(), 2);
        DUE.row("18: from 4 all through", x, 4, 1);
        CaveAdvice y = Due.cave("0110;0310;0210;0410;0510;0610;0710");
        DUE.is("18: all fourteen", Due.text(y, "a;a").becomes(), 14);
        DUE.row("18: of PASSAGES the least", y, 0, 0);
        y.falls(0);
        DUE.is("18: twelve", Due.text(y, "a;a").becomes(), 12);
        DUE.row("18: of OPEN PASSAGES the least", y, 0, 1);
    }

    // 18: "its end, if it ends too early"
    private static void becomesEndsTooEarly() {
        for (int letters = 1; letters <= 6; letters++) {
            String whole = "abcdef".substring(0, letters) + ";" + "abcdef".substring(0, letters);
            for (int length = 0; length < whole.length(); length++) {
                CaveAdvice x = Due.cave("0110");
                DUE.is("18: " + whole.substring(0, length), Due.text(x, whole.substring(0, length)).becomes(), -1 - length);
                DUE.is("18: THE TEXT is emptied", x.count(10), 0);
                DUE.is("18: cut behind " + length, Edges.cut(x, whole, length).becomes(), -1 - length);
            }
            DUE.is("18: " + whole, Due.text(Due.cave("0110"), whole).becomes(), 2);
        }
    }

    // 18: "the sign at p can't stand there"
    private static void becomesSignsThatCantStand() {
        String letters = "abcdefgh";
        String[] can = {letters, letters + ";", letters + ";", letters, letters, letters, ""};
        String text = "abc;def";
        for (int at = 0; at <= 6; at++) {
            for (int sign = 0; sign < 256; sign++) {
                boolean stands = at < 3 ? can[at].indexOf(sign) >= 0 : at == 3 ? sign == ';' || letters.indexOf(sign) >= 0
                    : letters.indexOf(sign) >= 0;
                String some = text.substring(0, at) + (char) sign + ".";
                DUE.is("18: " + some, Due.text(Due.cave("0110"), some).becomes(), -1 - at - (stands ? 1 : 0));
            }
        }
        DUE.is("18: a seventh of the first", Due.text(Due.cave("0110"), "abcdefg;abcdefg").becomes(), -7);
        DUE.is("18: a long first", Due.text(Due.cave("0110"), "a".repeat(80)).becomes(), -7);
        DUE.is("18: a second ;", Due.text(Due.cave("0110"), "ab;;").becomes(), -4);
        DUE.is("18: a second ; later", Due.text(Due.cave("0110"), "ab;a;").becomes(), -5);
    }

    // 18: "a LETTER of the second one too many: at it"
    private static void becomesOneTooMany() {
        for (int letters = 1; letters <= 6; letters++) {
            String whole = "abcdef".substring(0, letters) + ";" + "abcdef".substring(0, letters);
            for (String more : new String[] {"a", "h", ";", ".", "aa", "a".repeat(40)}) {
                CaveAdvice x = Due.cave("0110");
                DUE.is("18: " + whole + more, Due.text(x, whole + more).becomes(), -2 - 2 * letters);
                DUE.is("18: the ROW stays", x.count(9), 0);
            }
        }
    }

    // 19: "By places 0 .. 5 how many of the eight LETTERS come out as they are"
    private static void keepsNoneAndAll() {
        CaveAdvice x = Due.cave("0110;2311");
        DUE.is("19: all", x.keeps(0, 0), 48);
        DUE.row("19: all", x, 8, 8, 8, 8, 8, 8);
        DUE.is("19: none", x.keeps(2, 1), 0);
        DUE.row("19: none", x, 0, 0, 0, 0, 0, 0);
        Due.withRule(x, "p");
        DUE.is("19: one each", x.keeps(3, 1), 6);
        DUE.row("19: one each", x, 1, 1, 1, 1, 1, 1);
        Due.withRule(x, "v*(p=5)+v*(p=0)");
        DUE.is("19: the first and the last", x.keeps(0, 0), 20);
        DUE.row("19: the first and the last", x, 8, 1, 1, 1, 1, 8);
    }

    // 19: "NONE: none can be made so."
    private static void keepsRefused() {
        CaveAdvice x = Edges.worn();
        String row = Edges.rowOf(x);
        for (int c : Edges.outside(0, 7)) {
            DUE.is("19: from " + c, x.keeps(c, 0), -1);
            DUE.is("20: from " + c, x.apart(c, 0, 1), -1);
        }
        for (int q : Edges.outside(0, 3)) {
            DUE.is("19: into " + q, x.keeps(0, q), -1);
            DUE.is("20: into " + q, x.apart(0, q, 1), -1);
        }
        DUE.is("19: of which it is no end", x.keeps(2, 0), -1);
        DUE.is("19: not OPEN", x.keeps(0, 3), -1);
        DUE.is("20: of which it is no end", x.apart(2, 0, 1), -1);
        DUE.is("20: not OPEN", x.apart(0, 3, 1), -1);
        DUE.holds("19, 20: the ROW stays", row.equals(Edges.rowOf(x)));
    }

    // 20: "all CALLS of n LETTERS (1 .. 6)"
    private static void apartOneToSix() {
        CaveAdvice same = Due.cave("0110");
        CaveAdvice one = Due.withRule(Due.cave("0110"), "3");
        CaveAdvice half = Due.withRule(Due.cave("0110"), "v/2");
        CaveAdvice some = Due.withRule(Due.cave("0110"), "v/5*(p+1)/2");
        int eights = 1;
        int fours = 1;
        int twos = 1;
        int fives = 1;
        int different = 1;
        for (int n = 1; n <= 6; n++) {
            eights *= 8;
            fours *= 4;
            twos *= 2;
            // At place 0 all become a, at the others a .. e one and f .. h another one.
            fives *= n == 1 ? 8 : 5;
            different *= n == 1 ? 1 : 2;
            DUE.is("20: all different, " + n, same.apart(0, 0, n), eights);
            DUE.row("20: one each, " + n, same, 1);
            DUE.is("20: all the same, " + n, one.apart(0, 0, n), 1);
            DUE.row("20: all as one, " + n, one, eights);
            DUE.is("20: halves, " + n, half.apart(0, 0, n), fours);
            DUE.row("20: two each, " + n, half, twos);
            DUE.is("20: by places, " + n, some.apart(0, 0, n), different);
            DUE.row("20: the most, " + n, some, fives);
        }
    }

    // 20: "NONE: others."
    private static void apartOthers() {
        CaveAdvice x = Edges.worn();
        String row = Edges.rowOf(x);
        for (int n : Edges.outside(1, 6)) {
            DUE.is("20: n " + n, x.apart(0, 0, n), -1);
        }
        DUE.holds("20: the ROW stays", row.equals(Edges.rowOf(x)));
    }

    // 21: "of equal ones the first"
    private static void longestOfEqualOnes() {
        CaveAdvice x = Due.cave("0120;0220;0340;0440;0540");
        DUE.is("21: of three equal ones the first", x.longest(0), 2);
        DUE.row("21: of three equal ones the first", x, 4, 3);
        x.falls(2);
        DUE.is("21: of two", x.longest(0), 3);
        DUE.row("21: of two", x, 4, 4);
        x.falls(3);
        x.falls(4);
        DUE.is("21: of two others", x.longest(0), 0);
        DUE.row("21: of two others", x, 2, 1);
        CaveAdvice least = Due.cave("0110");
        DUE.is("21: one minute", least.longest(0), 0);
        DUE.row("21: one minute", least, 1, 1);
        CaveAdvice most = Due.cave("0190;1290;2190;1290;2190;1290;2190;1290;2190;1290;2190;1290");
        DUE.is("21: the most minutes there can be", most.longest(0), 0);
        DUE.row("21: the most minutes there can be", most, 108, 2);
        CaveAdvice y = Due.cave("0710;0720");
        DUE.is("21: round by both", y.longest(7), 0);
        DUE.row("21: round by both", y, 3, 7);
    }

    // 21: "-2: there is none"
    private static void longestOfNone() {
        CaveAdvice x = Due.cave("0110");
        x.route(0, 0);
        for (int c = 2; c < 8; c++) {
            DUE.is("21: none", x.longest(c), -2);
        }
        x.falls(0);
        DUE.is("21: none OPEN", x.longest(0), -2);
        DUE.row("21: the ROW stays", x, 1, 0);
        DUE.is("21: no PASSAGES", new CaveAdvice().longest(7), -2);
    }

    // 21: "NONE: none such."
    private static void longestNoneSuch() {
        CaveAdvice x = Due.cave("0110");
        x.route(0, 0);
        for (int c : Edges.outside(0, 7)) {
            DUE.is("21: no CAVERN " + c, x.longest(c), -1);
        }
        DUE.row("21: the ROW stays", x, 1, 0);
    }

    // 22: no ECHOES, none that end so, all that end so
    private static void roundsOfNone() {
        CaveAdvice x = new CaveAdvice();
        DUE.is("22: no PASSAGES", x.rounds(), 0);
        DUE.row("22: no PASSAGES", x, 0, 0);
        CaveAdvice y = Due.cave("0110;1210");
        DUE.is("22: none", y.rounds(), 0);
        DUE.row("22: none", y, 4, 0);
    }

    private static void roundsOfAll() {
        CaveAdvice x = Due.cave("0110;0110;2310;2310;4510;4510;6710;6710");
        DUE.is("22: all CAVERNS", x.rounds(), 255);
        DUE.row("22: all ECHOES", x, 16, 16);
        CaveAdvice y = Due.cave("6710;6710;6710;6710;6710;6710;6710;6710;6710;6710;6710;6710");
        DUE.is("22: two CAVERNS", y.rounds(), 192);
        DUE.row("22: twelve each", y, 24, 24);
    }
}
