/** Promises 9 to 14: calls, hours, falls, digs, seasons, undoing. */
public final class CallsTest {
    private static final Due DUE = new Due();

    public static void main(String[] args) {
        calls();
        callsRefused();
        mostWear();
        hours();
        falls();
        digs();
        season();
        seasonAtFault();
        undo();
        undoFifteen();
        DUE.close();
    }

    private static void calls() {
        // From 0 by 0 to 1, by 1 to 2, by 2 home: 1 + 2 + 3 minutes, bends 1 + 2 + 3.
        CaveAdvice x = Due.cave("0111;1222;2033;0344");
        DUE.is("9: home again", Due.text(x, "ah").calls(0, 0), 0);
        DUE.row("9: home again", x, 6, 6, 5);
        DUE.is("9: the text is emptied", x.count(10), 0);
        DUE.is("9: WEAR of all", x.count(4), 3);
        DUE.is("9: WEAR of one not gone by", x.passage(3, 4), 0);
        DUE.is("9: CALLED", x.count(3), 1);
        DUE.is("9: no HOUR", x.count(2), 0);
        DUE.is("9: no way on", Due.text(x, "abcdef").calls(0, 3), 3);
        DUE.row("9: no way on", x, 4, 4, 5, 6, 7, 0, 1);
        DUE.is("9: from 3 all through", Due.text(x, "a").calls(3, 3), 0);
        DUE.row("9: from 3 by 3, 0, 1, 2", x, 10, 4 + 1 + 2 + 3 & 7);
        DUE.is("9: CALLED", x.count(3), 3);
        // By now 0, 1, 2 have WEAR 2, 3 has 2; one more makes 3, told from what was ahead.
        Due.text(x, "a").calls(0, 0);
        DUE.row("9: WEAR 2 changes nothing", x, 6, 6);
        Due.text(x, "a").calls(0, 0);
        DUE.row("9: WEAR 3 takes 1 each", x, 6, 3);
    }

    private static void callsRefused() {
        CaveAdvice x = Due.cave("0111;1222");
        Due.text(x, "a").calls(0, 0);
        String[] texts = {"", "i", "ai", "abcdefg", "abcdefx", "a;", "`", "A", "abcdefgh"};
        int[] faults = {0, 0, 1, 6, 6, 1, 0, 0, 6};
        for (int i = 0; i < texts.length; i++) {
            DUE.is("9: " + texts[i], Due.text(x, texts[i]).calls(0, 0), -1 - faults[i]);
            DUE.is("9: the text is emptied", x.count(10), 0);
            DUE.is("16: " + texts[i], Due.text(x, texts[i]).hears(0, 0), -1 - faults[i]);
            DUE.is("17: " + texts[i], Due.text(x, texts[i]).asks(0, 0), -1 - faults[i]);
        }
        x.falls(1);
        int[][] places = {{2, 0}, {0, 1}, {1, 1}, {8, 0}, {-1, 0}, {0, 2}, {0, -1}};
        for (int[] place : places) {
            DUE.is("9: -100", Due.text(x, "a").calls(place[0], place[1]), -100);
            DUE.is("9: -100 empties the text", x.count(10), 0);
            DUE.is("9: -100 is asked first", Due.text(x, "z").calls(place[0], place[1]), -100);
            DUE.is("16: -100", Due.text(x, "").hears(place[0], place[1]), -100);
            DUE.is("17: -100", Due.text(x, "").asks(place[0], place[1]), -100);
        }
        DUE.row("9: the ROW stays", x, 3, 3);
        DUE.is("9: CALLED stays", x.count(3), 1);
        DUE.is("9: WEAR stays", x.count(4), 2);
        DUE.is("9: only what was done can be undone", x.count(8), 2);
    }

    private static void mostWear() {
        CaveAdvice x = Due.cave("0110");
        for (int i = 0; i < 12; i++) {
            Due.text(x, "a").calls(0, 0);
        }
        DUE.is("9: WEAR 9 at most", x.passage(0, 4), 9);
        DUE.is("9: CALLED goes on", x.count(3), 12);
        mostCalled();
    }

    /** 999 CALLS take more than 512 calls of the face; the bound is kept all the same. */
    private static void mostCalled() {
        CaveAdvice x = Due.cave("0110");
        for (int i = 0; i < 66; i++) {
            Due.text(x, "s00as00as00as00as00as00as00as00as00as00as00as00as00as00as00a").season();
        }
        DUE.is("13: 66 times 15 CALLS", x.count(3), 990);
        DUE.is("13: as many as are left", Due.text(x, "s00as00as00as00as00as00as00as00as00as00a").season(), 10);
        DUE.is("9: CALLED 999 at most", x.count(3), 999);
        DUE.is("9: another call", Due.text(x, "a").calls(0, 0), 1);
        DUE.is("9: CALLED stays 999", x.count(3), 999);
    }

    private static void hours() {
        CaveAdvice x = Due.cave("0110;0110;0110");
        x.sheet(2, 3, 1, 3);
        DUE.is("10: 2 hours", x.hours(2), 0 + 2 + 5);
        DUE.is("10: HOUR", x.count(2), 2);
        DUE.is("10: none", x.hours(0), 7);
        DUE.is("10: 61", x.hours(61), -1);
        DUE.is("10: -1", x.hours(-1), -1);
        DUE.is("10: refused, HOUR stays", x.count(2), 2);
        DUE.is("10: refused, WEAR stays", x.count(4), 7);
        DUE.is("10: 60", x.hours(60), 0);
        DUE.is("10: HOUR", x.count(2), 62);
        DUE.is("10: what can be undone", x.count(8), 3);
    }

    private static void falls() {
        CaveAdvice x = Due.cave("0110;0110;0110");
        DUE.is("11: falls in", x.falls(1), 2);
        DUE.is("11: not OPEN", x.passage(1, 5), 0);
        DUE.is("11: falls in", x.falls(2), 1);
        DUE.is("11: dug", x.falls(1), 2);
        DUE.is("11: OPEN", x.passage(1, 5), 1);
        DUE.is("11: no such", x.falls(3), -1);
        DUE.is("11: no such", x.falls(-1), -1);
        DUE.is("11: refused", x.count(1), 2);
    }

    private static void digs() {
        CaveAdvice x = Due.cave("0137;0190");
        DUE.is("12: dug otherwise", x.digs(0, 9, 0), 137);
        DUE.is("12: DELAY", x.passage(0, 2), 9);
        DUE.is("12: BEND", x.passage(0, 3), 0);
        DUE.is("12: it has these", x.digs(0, 9, 0), -2);
        DUE.is("12: another DELAY alone", x.digs(0, 1, 0), 190);
        DUE.is("12: another BEND alone", x.digs(0, 1, 9), 110);
        int[][] wrong = {{2, 1, 1}, {-1, 1, 1}, {0, 0, 1}, {0, 10, 1}, {0, 1, -1}, {0, 1, 10}};
        for (int[] w : wrong) {
            DUE.is("12: refused", x.digs(w[0], w[1], w[2]), -1);
        }
        DUE.is("12: DELAYS of all", x.count(5), 10);
        DUE.is("12: what can be undone", x.count(8), 3);
        x.falls(1);
        DUE.is("12: of one that is not OPEN", x.digs(1, 2, 3), 190);
    }

    private static void season() {
        CaveAdvice x = Due.cave("0111;1222;2033");
        DUE.is("13: an empty one", x.season(), 0);
        DUE.row("13: an empty one", x, 0, 0);
        DUE.is("13: an empty one can't be undone", x.count(8), 0);
        DUE.is("13: all kinds", Due.text(x, "n3s00abx2m145s20h").season(), 4);
        DUE.row("13: 2 is not OPEN then", x, 1, 1);
        DUE.is("13: the text is emptied", x.count(10), 0);
        DUE.is("13: HOUR", x.count(2), 3);
        DUE.is("13: CALLED", x.count(3), 1);
        DUE.is("13: WEAR", x.count(4), 3);
        DUE.is("13: not OPEN", x.passage(2, 5), 0);
        DUE.is("13: DELAY", x.passage(1, 2), 4);
        DUE.is("13: BEND", x.passage(1, 3), 5);
        DUE.is("13: undone as one", x.count(8), 1);
        DUE.is("13: the first one is refused", Due.text(x, "x9n1").season(), 0);
        DUE.row("13: the first one is refused", x, 1, 1);
        DUE.is("13: the first one is refused: nothing to undo", x.count(8), 1);
        DUE.is("13: none behind a refused one", x.count(2), 3);
        DUE.is("13: what it has is refused", Due.text(x, "n0m145n1").season(), 1);
        DUE.is("13: DELAY 0 is refused", Due.text(x, "m105").season(), 0);
        DUE.is("13: CAVERN 9 is refused", Due.text(x, "n0s90an1").season(), 1);
        DUE.is("13: CALLS in a row", Due.text(x, "s00abcdefs00as10h").season(), 3);
        DUE.row("13: CALLS in a row", x, 0, 4);
        DUE.is("13: back again", x.undo(), 3);
        DUE.is("13: CALLED again", x.count(3), 1);
    }

    private static void seasonAtFault() {
        String[] texts = {"a", "n", "nn", "nx", "s", "s0", "s0a", "s00", "s00i", "s00n1", "s00abcdefg", "x", "xx", "m", "m1", "m12",
            "m12n", "m1234", "n12", "n1 ", "s00ai", "x1a", "n1s", "N1", "s00abcdefx", "0"};
        int[] faults = {0, 1, 1, 1, 1, 2, 2, 3, 3, 3, 9, 1, 1, 1, 2, 3, 3, 4, 2, 2, 4, 2, 3, 0, 10, 0};
        for (int i = 0; i < texts.length; i++) {
            CaveAdvice x = Due.cave("0111");
            x.rounds();
            DUE.is("13: " + texts[i], Due.text(x, texts[i]).season(), -1 - faults[i]);
            DUE.is("13: the text is emptied: " + texts[i], x.count(10), 0);
            DUE.is("13: nothing is done: " + texts[i], x.count(2) + x.count(3) + x.count(8), 0);
            DUE.row("13: the ROW stays: " + texts[i], x, 2, 0);
        }
        CaveAdvice x = Due.cave("0111");
        DUE.is("13: sixty", Due.text(x, "n1".repeat(30)).season(), 30);
        DUE.is("13: sixty-one", Due.text(x, "n1".repeat(30) + "n").season(), -61);
        DUE.is("13: sixty-two", Due.text(x, "n1".repeat(31)).season(), -61);
        DUE.is("13: a fault behind sixty", Due.text(x, "n1".repeat(30) + "zz").season(), -61);
        DUE.is("13: sixty could go on", Due.text(x, "s00an1".repeat(9) + "n1n1s0" + "0a").season(), -61);
        DUE.is("13: sixty end too early", Due.text(x, "s00an1".repeat(9) + "n1n1s0").season(), -61);
        DUE.is("13: a fault ahead", Due.text(x, "z" + "n1".repeat(31)).season(), -1);
        DUE.is("13: HOUR", x.count(2), 30);
    }

    private static void undo() {
        CaveAdvice x = Due.cave("0111;1222");
        DUE.is("14: none", x.undo(), -1);
        x.hours(2);
        Due.text(x, "a").calls(0, 0);
        x.falls(0);
        x.digs(1, 9, 9);
        Due.text(x, "n3x1").season();
        DUE.is("14: five", x.count(8), 5);
        DUE.is("14: the season", x.undo(), 4);
        DUE.is("14: HOUR", x.count(2), 2);
        DUE.is("14: OPEN", x.passage(1, 5), 1);
        DUE.is("14: the dig", x.undo(), 3);
        DUE.is("14: DELAY", x.passage(1, 2), 2);
        DUE.is("14: BEND", x.passage(1, 3), 2);
        DUE.is("14: the fall", x.undo(), 2);
        DUE.is("14: OPEN", x.passage(0, 5), 1);
        DUE.is("14: the call", x.undo(), 1);
        DUE.is("14: WEAR", x.count(4), 0);
        DUE.is("14: CALLED", x.count(3), 0);
        DUE.is("14: the hours", x.undo(), 0);
        DUE.is("14: HOUR", x.count(2), 0);
        DUE.is("14: none", x.undo(), -1);
        x.hours(1);
        x.sheet(2, 2, 9, 0);
        x.told(1, 1);
        Due.withRule(x, "v");
        DUE.is("14: all is as ahead of it", x.undo(), 0);
        DUE.is("14: WEAR of a sheet too", x.count(4), 0);
        DUE.is("14: what was told stays", x.count(6), 1);
        Due.text(x, "c").hears(0, 0);
        DUE.row("14: the rule stays", x, 2);
        x.hours(1);
        x.keep(0);
        DUE.is("14: keep() forgets none", x.count(8), 1);
        x.again(0);
        DUE.is("14: again() forgets them", x.undo(), -1);
        x.hours(1);
        x.again(1);
        DUE.is("14: a refused one forgets none", x.undo(), 0);
    }

    private static void undoFifteen() {
        CaveAdvice x = Due.cave("0111");
        for (int i = 1; i <= 40; i++) {
            x.hours(1);
            DUE.is("14: at most 15", x.count(8), Math.min(15, i));
        }
        x.hours(99);
        x.falls(7);
        x.digs(0, 1, 1);
        DUE.is("14: such as were done", x.undo(), 14);
        DUE.is("14: the latest one", x.count(2), 39);
        for (int i = 13; i >= 0; i--) {
            DUE.is("14: one by one", x.undo(), i);
        }
        DUE.is("14: no more", x.undo(), -1);
        DUE.is("14: the sixteenth stays", x.count(2), 25);
    }
}
