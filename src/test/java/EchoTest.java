/** Promises 15 to 22: what comes out. */
public final class EchoTest {
    private static final Due DUE = new Due();

    public static void main(String[] args) {
        route();
        hears();
        asks();
        becomes();
        becomesAtFault();
        keeps();
        apart();
        longest();
        rounds();
        DUE.close();
    }

    private static void route() {
        CaveAdvice x = Due.cave("0111;1222;2033;2344;0151");
        DUE.is("15: a round", x.route(0, 0), 0);
        DUE.row("15: a round", x, 6, 0, 1, 2);
        DUE.is("15: home by the least number", x.route(0, 4), 0);
        DUE.row("15: home by the least number", x, 6, 4, 0);
        DUE.is("15: it comes through a CAVERN twice", x.route(3, 3), 2);
        DUE.row("15: it comes through a CAVERN twice", x, 10, 3, 1, 0, 2);
        DUE.is("15: none from there", x.route(3, 0), -1);
        DUE.is("15: no such PASSAGE", x.route(0, 5), -1);
        DUE.is("15: no such CAVERN", x.route(8, 0), -1);
        DUE.is("15: below 0", x.route(-1, -1), -1);
        DUE.row("15: refused, the ROW stays", x, 10, 3, 1, 0, 2);
        x.falls(0);
        DUE.is("15: not OPEN", x.route(0, 0), -1);
        DUE.is("15: what is not OPEN is passed over", x.route(3, 3), 2);
        DUE.row("15: what is not OPEN is passed over", x, 14, 3, 1, 4, 2);
        DUE.is("15: WEAR stays", x.count(4), 0);
    }

    private static void hears() {
        CaveAdvice x = Due.withRule(Due.cave("0111;1222"), "v*p");
        DUE.is("16: by places", Due.text(x, "abbbbb").hears(0, 0), 4);
        DUE.row("16: by places", x, 0, 1, 4, 1, 0, 1);
        DUE.is("16: the text is emptied", x.count(10), 0);
        DUE.is("16: WEAR stays", x.count(4), 0);
        DUE.is("16: CALLED stays", x.count(3), 0);
        Due.withRule(x, "v+e*4+d");
        DUE.is("16: forth", Due.text(x, "a").hears(0, 0), 0);
        DUE.row("16: forth", x, 3);
        DUE.is("16: back", Due.text(x, "a").hears(2, 1), 0);
        DUE.row("16: back", x, 3);
        DUE.is("16: back from 1", Due.text(x, "d").hears(1, 0), 0);
        DUE.row("16: back from 1", x, 0);
    }

    private static void asks() {
        CaveAdvice x = Due.withRule(Due.cave("0111"), "v/2+p*2");
        DUE.is("17: two by two", Due.text(x, "bd").asks(0, 0), 4);
        DUE.row("17: the least of these", x, 2, 2);
        DUE.is("17: none", Due.text(x, "bb").asks(0, 0), 0);
        DUE.row("17: none", x);
        Due.withRule(x, "5");
        DUE.is("17: all", Due.text(x, "ffffff").asks(0, 0), 262144);
        DUE.row("17: all", x, 0, 0, 0, 0, 0, 0);
        DUE.is("17: the text is emptied", x.count(10), 0);
        DUE.is("17: WEAR stays", x.count(4), 0);
    }

    private static void becomes() {
        CaveAdvice x = Due.cave("0111;1222;3451");
        DUE.is("18: one more each", Due.text(x, "ab;bc").becomes(), 3);
        DUE.row("18: the least pair", x, 1, 0);
        DUE.is("18: by both", Due.text(x, "a;d").becomes(), 2);
        DUE.row("18: by both", x, 0, 0);
        DUE.is("18: none", Due.text(x, "a;h").becomes(), 0);
        DUE.row("18: none", x);
        DUE.is("18: one LETTER of two", Due.text(x, "ab;bb").becomes(), 0);
        x.falls(0);
        DUE.is("18: without 0", Due.text(x, "abcdef;bcdefg").becomes(), 2);
        DUE.row("18: without 0", x, 3, 2);
        DUE.is("18: the text is emptied", x.count(10), 0);
    }

    private static void becomesAtFault() {
        String[] texts = {"", ";", "a", "ab", "a;", "a;;", "a;i", "a;bc", "ab;c", "ab;c;", "i", "abcdefg", "abcdef", "abcdef;abcdefg",
            "abcdefg;abcdefg", "a b", "a;b;", "a;b "};
        int[] faults = {0, 0, 1, 2, 2, 2, 2, 3, 4, 4, 0, 6, 6, 13, 6, 1, 3, 3};
        for (int i = 0; i < texts.length; i++) {
            CaveAdvice x = Due.cave("0111");
            DUE.is("18: " + texts[i], Due.text(x, texts[i]).becomes(), -1 - faults[i]);
            DUE.is("18: the text is emptied: " + texts[i], x.count(10), 0);
        }
    }

    private static void keeps() {
        CaveAdvice x = Due.withRule(Due.cave("0111"), "v*p");
        // v * p = v by 8: at place 0: 0; 1: all; 2: 0; 3: 0, 4; 4: 0; 5: 0, 2, 4, 6.
        DUE.is("19: by places", x.keeps(0, 0), 1 + 8 + 1 + 2 + 1 + 4);
        DUE.row("19: by places", x, 1, 8, 1, 2, 1, 4);
        DUE.is("19: none from there", x.keeps(2, 0), -1);
        DUE.is("19: no such", x.keeps(0, 1), -1);
        DUE.row("19: refused", x, 1, 8, 1, 2, 1, 4);
    }

    private static void apart() {
        CaveAdvice x = Due.withRule(Due.cave("0111"), "v/(p+1)");
        // Place 0: 8 different, 1 each; 1: 4, 2 each; 2: 0 .. 2, the most 3; 3: 2, 4 each; 4: 2, 5; 5: 2, 6.
        int[] different = {8, 32, 96, 192, 384, 768};
        int[] alike = {1, 2, 6, 24, 120, 720};
        for (int n = 1; n <= 6; n++) {
            DUE.is("20: " + n, x.apart(0, 0, n), different[n - 1]);
            DUE.row("20: " + n, x, alike[n - 1]);
        }
        DUE.is("20: 0", x.apart(0, 0, 0), -1);
        DUE.is("20: 7", x.apart(0, 0, 7), -1);
        DUE.is("20: none from there", x.apart(2, 0, 1), -1);
        DUE.row("20: refused", x, 720);
    }

    private static void longest() {
        CaveAdvice x = Due.cave("0130;0130;2390;3440;3450");
        DUE.is("21: of equal ones the first", x.longest(0), 0);
        DUE.row("21: of equal ones the first", x, 6, 0);
        DUE.is("21: 3 by 2 alone", x.longest(3), 2);
        DUE.row("21: 9 minutes, as by 3 and 4", x, 9, 2);
        x.digs(2, 8, 0);
        DUE.is("21: 3 by 3 and 4", x.longest(3), 3);
        DUE.row("21: home again", x, 9, 3);
        DUE.is("21: none", x.longest(5), -2);
        DUE.is("21: no such", x.longest(8), -1);
        DUE.is("21: no such", x.longest(-1), -1);
        DUE.row("21: the ROW stays", x, 9, 3);
    }

    private static void rounds() {
        CaveAdvice x = Due.cave("0130;0130;2390");
        DUE.is("22: from 0 and 1", x.rounds(), 3);
        DUE.row("22: from 0 and 1", x, 6, 4);
        x.falls(0);
        DUE.is("22: none", x.rounds(), 0);
        DUE.row("22: none", x, 4, 0);
    }
}
