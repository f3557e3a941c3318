/** Boundary cases that promises 9 to 14 name, each sentence with a test of its own. */
public final class CallsEdgesTest {
    private static final Due DUE = new Due();
    private static final String FIFTEEN_CALLS = "s00a".repeat(15);

    public static void main(String[] args) {
        oneToSixLetters();
        lettersOfACall();
        noLetters();
        seventhLetter();
        wearNineAtMost();
        calledAtMost();
        noEcho();
        noEchoIsAskedFirst();
        hoursInRange();
        hoursOutOfRange();
        wearZeroAtLeast();
        fallsInAndIsDug();
        noneSuchFalls();
        digsInRange();
        itHasThese();
        digsOutOfRange();
        emptySeason();
        signsOfASeason();
        seasonEndsTooEarly();
        seventhLetterOfASeason();
        moreThanSixty();
        nothingIsDoneThen();
        tillOneIsRefused();
        seasonTellsTheRow();
        seasonByItsCalls();
        undoFifteen();
        undoSuchAsWereDone();
        undoSeasonAsOne();
        undoRefused();
        undoIsForgotten();
        undoIsNotForgotten();
        undoBringsBackAll();
        undoOfTwelve();
        undoFifteenThoughOthersAreRefused();
        DUE.close();
    }

    // 9, Terms: "A CALL: 1 to 6 LETTERS"
    private static void oneToSixLetters() {
        for (int letters = 1; letters <= 6; letters++) {
            CaveAdvice x = Due.cave("0180");
            DUE.is("9: " + letters + " LETTERS", Due.text(x, "hgfedc".substring(0, letters)).calls(0, 0), 1);
            DUE.is("9: minutes and each LETTER", x.count(9), 1 + letters);
            DUE.is("9: minutes first", x.row(0), 8);
            for (int i = 0; i < letters; i++) {
                DUE.is("9: LETTER " + i, x.row(1 + i), 7 - i);
            }
            DUE.is("9: CALLED 1 more", x.count(3), 1);
        }
    }

    // 9: "the sign at p can't stand there"; Terms: "LETTERS a .. h (0 .. 7)"
    private static void lettersOfACall() {
        for (int sign = 0; sign < 256; sign++) {
            boolean isLetter = sign >= 'a' && sign <= 'h';
            for (int at = 0; at < 6; at++) {
                char[] call = "bbbbbb".toCharArray();
                call[at] = (char) sign;
                CaveAdvice x = Due.cave("0110");
                int want = isLetter ? 1 : -1 - at;
                DUE.is("9: sign " + sign + " at " + at, Due.text(x, new String(call)).calls(0, 0), want);
                DUE.is("9: CALLED then", x.count(3), isLetter ? 1 : 0);
                DUE.is("16: sign " + sign + " at " + at, Due.text(x, new String(call)).hears(0, 0), isLetter ? 6 : want);
                DUE.is("17: sign " + sign + " at " + at, Due.text(x, new String(call)).asks(0, 0), want);
            }
        }
    }

    // 9: "(its end for none ...)"
    private static void noLetters() {
        CaveAdvice x = Due.cave("0110");
        DUE.is("9: its end for none", x.calls(0, 0), -1);
        DUE.is("16: its end for none", x.hears(0, 0), -1);
        DUE.is("17: its end for none", x.asks(0, 0), -1);
        DUE.is("9: none of what was there", Edges.cut(x, "abc", 0).calls(0, 0), -1);
        DUE.is("16: none of what was there", Edges.cut(x, "abc", 0).hears(0, 0), -1);
        DUE.is("17: none of what was there", Edges.cut(x, "abc", 0).asks(0, 0), -1);
        DUE.is("9: CALLED stays", x.count(3), 0);
        DUE.is("9: WEAR stays", x.count(4), 0);
        DUE.is("9: the first two alone", Edges.cut(x, "abc", 2).calls(0, 0), 1);
        DUE.row("9: the first two alone", x, 1, 0, 1);
    }

    // 9: "a seventh LETTER: at it"
    private static void seventhLetter() {
        for (String call : new String[] {"abcdefg", "abcdefx", "abcdefgh", "abcdef;", "a".repeat(80)}) {
            CaveAdvice x = Due.cave("0110");
            DUE.is("9: " + call, Due.text(x, call).calls(0, 0), -7);
            DUE.is("16: " + call, Due.text(x, call).hears(0, 0), -7);
            DUE.is("17: " + call, Due.text(x, call).asks(0, 0), -7);
            DUE.is("9: nothing is called", x.count(3) + x.count(4) + x.count(8) + x.count(9), 0);
        }
        DUE.is("9: a fault ahead of it", Due.text(Due.cave("0110"), "abxdefg").calls(0, 0), -3);
    }

    // 9: "WEAR of each PASSAGE by which it went is 1 more (9 at most)"
    private static void wearNineAtMost() {
        CaveAdvice x = Due.cave("0110;1010;0110");
        x.sheet(2, 3, 8, 1);
        Due.text(x, "a").calls(0, 0);
        DUE.is("9: 8 and 1 more", x.passage(0, 4), 9);
        DUE.is("9: 9 at most", x.passage(1, 4), 9);
        DUE.is("9: one by which it did not go", x.passage(2, 4), 9);
        CaveAdvice y = Due.cave("0110;1010;0110");
        for (int i = 1; i <= 11; i++) {
            Due.text(y, "a").calls(0, 0);
            DUE.is("9: WEAR of call " + i, y.passage(0, 4), Math.min(9, i));
            DUE.is("9: WEAR of the second", y.passage(1, 4), Math.min(9, i));
            DUE.is("9: WEAR of the third", y.passage(2, 4), 0);
            DUE.is("9: CALLED", y.count(3), i);
        }
    }

    // 9: "CALLED 1 more (999 at most)": 999 take more calls than are promised; the bound is kept all the same.
    private static void calledAtMost() {
        CaveAdvice x = Due.cave("0110");
        for (int i = 0; i < 66; i++) {
            Due.text(x, FIFTEEN_CALLS).season();
        }
        for (int called = 991; called <= 1003; called++) {
            DUE.is("9: a call", Due.text(x, "a").calls(0, 0), 1);
            DUE.is("9: CALLED 999 at most", x.count(3), Math.min(999, called));
        }
        DUE.is("13: fifteen more", Due.text(x, FIFTEEN_CALLS).season(), 15);
        DUE.row("13: CALLED then", x, 0, 999);
    }

    // 9: "-100: no ECHO can be made so"
    private static void noEcho() {
        CaveAdvice x = Due.cave("0110;1210;2310");
        x.falls(1);
        int[][] none = {{0, 1}, {1, 1}, {2, 1}, {2, 0}, {3, 0}, {0, 2}, {7, 2}, {0, 3}, {0, 11}, {0, 12}, {0, -1}, {8, 0}, {-1, 0},
            {-1, -1}, {8, 12}, {256, 0}, {0, 256}, {Integer.MIN_VALUE, 0}, {0, Integer.MIN_VALUE}, {0, Integer.MAX_VALUE}};
        for (int[] n : none) {
            String so = n[0] + " into " + n[1];
            DUE.is("9: " + so, Due.text(x, "a").calls(n[0], n[1]), -100);
            DUE.is("9: THE TEXT is emptied", x.count(10), 0);
            DUE.is("16: " + so, Due.text(x, "a").hears(n[0], n[1]), -100);
            DUE.is("16: THE TEXT is emptied", x.count(10), 0);
            DUE.is("17: " + so, Due.text(x, "a").asks(n[0], n[1]), -100);
            DUE.is("17: THE TEXT is emptied", x.count(10), 0);
            DUE.is("15: " + so, x.route(n[0], n[1]), -1);
            DUE.is("19: " + so, x.keeps(n[0], n[1]), -1);
            DUE.is("20: " + so, x.apart(n[0], n[1], 1), -1);
            DUE.is("40: " + so, x.hints(n[0], n[1], 0, 0, 5), -1);
        }
        DUE.is("9: nothing is called", x.count(3) + x.count(4) + x.count(9), 0);
        DUE.is("9: what can be undone", x.count(8), 1);
    }

    // 9: "(asked first; THE TEXT is emptied)"
    private static void noEchoIsAskedFirst() {
        for (String call : new String[] {"", "x", "abcdefg", "a".repeat(80)}) {
            CaveAdvice x = Due.cave("0110");
            DUE.is("9: -100 ahead of a fault", Due.text(x, call).calls(2, 0), -100);
            DUE.is("9: THE TEXT is emptied", x.count(10), 0);
            DUE.is("16: -100 ahead of a fault", Due.text(x, call).hears(0, 1), -100);
            DUE.is("16: THE TEXT is emptied", x.count(10), 0);
            DUE.is("17: -100 ahead of a fault", Due.text(x, call).asks(8, 0), -100);
            DUE.is("17: THE TEXT is emptied", x.count(10), 0);
        }
    }

    // 10: "n HOURS (0 .. 60) go by"
    private static void hoursInRange() {
        for (int n = 0; n <= 60; n++) {
            CaveAdvice x = Due.cave("0110;0110");
            x.sheet(2, 2, 9, 0);
            DUE.is("10: " + n + " HOURS", x.hours(n), 2 * Math.max(0, 9 - n));
            DUE.is("10: HOUR", x.count(2), n);
            DUE.is("10: it can be undone", x.undo(), 0);
            DUE.is("10: HOUR as ahead of it", x.count(2), 0);
        }
        CaveAdvice x = new CaveAdvice();
        DUE.is("10: no PASSAGES", x.hours(60), 0);
        x.hours(60);
        DUE.is("10: HOUR goes on", x.count(2), 120);
    }

    // 10: "Refused: another n."
    private static void hoursOutOfRange() {
        CaveAdvice x = Edges.worn();
        for (int n : Edges.outside(0, 60)) {
            DUE.is("10: " + n + " HOURS", x.hours(n), -1);
        }
        DUE.holds("10: nothing changes", Edges.lookThrough(x).equals(Edges.lookThrough(Edges.worn())));
    }

    // 10: "WEAR of each PASSAGE is n less (0 at least)"
    private static void wearZeroAtLeast() {
        CaveAdvice x = Due.cave("0110;0110;0110;0110");
        x.sheet(2, 4, 0, 3);
        DUE.is("10: each by itself", x.hours(4), 0 + 0 + 2 + 5);
        int[] want = {0, 0, 2, 5};
        for (int q = 0; q < 4; q++) {
            DUE.is("10: 0 at least", x.passage(q, 4), want[q]);
        }
        x.falls(3);
        DUE.is("10: one that is not OPEN too", x.hours(1), 1 + 4);
    }

    // 11: "A PASSAGE falls in, or is dug OPEN again: how many are OPEN then."
    private static void fallsInAndIsDug() {
        CaveAdvice x = Due.cave("0110");
        DUE.is("11: the only one", x.falls(0), 0);
        DUE.is("11: none OPEN", x.count(1), 0);
        DUE.is("11: not OPEN", x.passage(0, 5), 0);
        DUE.is("14: it can be undone", x.undo(), 0);
        DUE.is("14: OPEN as ahead of it", x.passage(0, 5), 1);
        DUE.is("11: the only one again", x.falls(0), 0);
        DUE.is("11: dug", x.falls(0), 1);
        DUE.is("11: OPEN again", x.passage(0, 5), 1);
        CaveAdvice y = Due.cave("0119;0128;0137;0146;0155;0164;0173;0182;0191;1215;1224;1233");
        y.sheet(2, 12, 5, 0);
        for (int q = 11; q >= 0; q--) {
            DUE.is("11: fewer are OPEN", y.falls(q), q);
        }
        DUE.is("11: WEAR stays", y.count(4), 60);
        for (int q = 11; q >= 0; q--) {
            DUE.is("11: more are OPEN", y.falls(q), 12 - q);
        }
    }

    // 11: "NONE: none such."
    private static void noneSuchFalls() {
        DUE.is("11: no PASSAGES", new CaveAdvice().falls(0), -1);
        CaveAdvice x = Edges.worn();
        for (int q : Edges.outside(0, 3)) {
            DUE.is("11: none such: " + q, x.falls(q), -1);
        }
        DUE.is("11: 32 is not 0", x.falls(32), -1);
        DUE.holds("11: nothing changes", Edges.lookThrough(x).equals(Edges.lookThrough(Edges.worn())));
    }

    // 12: "DELAY is d (1 .. 9), BEND b (0 .. 9): 100 and ten times DELAY and BEND that it had"
    private static void digsInRange() {
        for (int d = 1; d <= 9; d++) {
            for (int b = 0; b <= 9; b++) {
                CaveAdvice x = Due.cave("0110;01" + d + b);
                DUE.is("12: it has these", x.digs(1, d, b), -2);
                int other = d == 1 ? 9 : 1;
                DUE.is("12: that it had", x.digs(1, other, 9 - b), 100 + 10 * d + b);
                DUE.is("12: DELAY", x.passage(1, 2), other);
                DUE.is("12: BEND", x.passage(1, 3), 9 - b);
                DUE.is("12: back", x.digs(1, d, b), 100 + 10 * other + 9 - b);
                DUE.is("12: another one stays", x.passage(0, 2), 1);
            }
        }
    }

    // 12: "-2: it has these"
    private static void itHasThese() {
        CaveAdvice x = Edges.worn();
        DUE.is("12: it has these", x.digs(1, 7, 8), -2);
        DUE.holds("12: nothing changes", Edges.lookThrough(x).equals(Edges.lookThrough(Edges.worn())));
        DUE.is("12: DELAY alone is the same", Edges.worn().digs(1, 7, 0), 178);
        DUE.is("12: BEND alone is the same", Edges.worn().digs(1, 1, 8), 178);
    }

    // 12: "NONE: others."
    private static void digsOutOfRange() {
        DUE.is("12: no PASSAGES", new CaveAdvice().digs(0, 1, 0), -1);
        CaveAdvice x = Edges.worn();
        for (int q : Edges.outside(0, 3)) {
            DUE.is("12: PASSAGE " + q, x.digs(q, 5, 5), -1);
        }
        for (int d : Edges.outside(1, 9)) {
            DUE.is("12: DELAY " + d, x.digs(0, d, 5), -1);
        }
        for (int b : Edges.outside(0, 9)) {
            DUE.is("12: BEND " + b, x.digs(0, 5, b), -1);
        }
        DUE.holds("12: nothing changes", Edges.lookThrough(x).equals(Edges.lookThrough(Edges.worn())));
    }

    // 13: "(an empty one: nothing)"
    private static void emptySeason() {
        CaveAdvice x = Due.text(Edges.worn(), "");
        DUE.is("13: an empty one", x.season(), 0);
        DUE.row("13: none was refused; CALLED", x, 0, 2);
        DUE.holds("13: nothing", Edges.lookThrough(Due.text(x, "hag")).equals(Edges.lookThrough(Edges.worn())));
    }

    // 13: "the sign at p can't stand there": each sign at each place of each act
    private static void signsOfASeason() {
        String acts = "nsxm";
        String digits = "0123456789";
        String letters = "abcdefgh";
        // What is put, with what can stand at each of its places; behind it all comes "n0".
        String[] texts = {"n5", "s00a", "s00aa", "s00aaaaaa", "x0", "m045"};
        String[][] can = {{acts, digits}, {acts, digits, digits, letters}, {acts, digits, digits, letters, letters + acts},
            {acts, digits, digits, letters, letters, letters, letters, letters, letters}, {acts, digits}, {acts, digits, digits, digits}};
        for (int i = 0; i < texts.length; i++) {
            for (int at = 0; at < texts[i].length(); at++) {
                for (int sign = 0; sign < 256; sign++) {
                    String text = texts[i].substring(0, at) + (char) sign;
                    boolean stands = can[i][at].indexOf(sign) >= 0;
                    stands |= at > 3 && acts.indexOf(sign) >= 0;
                    // With a sign behind it that can't stand, the answer tells how far all could.
                    int want = -1 - at - (stands ? 1 : 0);
                    DUE.is("13: " + text, Due.text(Due.cave("0110"), text + ".").season(), want);
                }
            }
        }
    }

    // 13: "its end, if it ends too early"
    private static void seasonEndsTooEarly() {
        String[] early = {"n", "s", "s0", "s00", "x", "m", "m0", "m04", "n1n", "n1s00", "x0m04", "s00as", "s00as0", "s00as00", "s00abcdefx"};
        for (String text : early) {
            CaveAdvice x = Due.cave("0110");
            DUE.is("13: " + text, Due.text(x, text).season(), -1 - text.length());
            DUE.is("13: nothing is done", x.count(1) + x.count(2) + x.count(3) + x.count(8), 1);
        }
        String all = "n1s00abcdefx0m045s10h";
        for (int length = 0; length <= all.length(); length++) {
            int digitsAndLetters = all.substring(0, length).replaceAll("n[0-9]|s[0-9][0-9][a-h]+|x[0-9]|m[0-9]{3}", "").length();
            int acts = all.substring(0, length).replaceAll("[^nsxm]", "").length();
            // The last CALL goes into a PASSAGE that is not OPEN then.
            int want = digitsAndLetters > 0 ? -1 - length : Math.min(4, acts);
            DUE.is("13: cut behind " + length + " signs", Edges.cut(Due.cave("0110"), all, length).season(), want);
        }
        String[] whole = {"n1", "s00a", "x0", "m045", "n1n1", "n1s00a", "s00as00a", "s00abcdefx0", "m045n0x0"};
        int[] done = {1, 1, 1, 1, 2, 2, 2, 2, 3};
        for (int i = 0; i < whole.length; i++) {
            DUE.is("13: " + whole[i], Due.text(Due.cave("0110"), whole[i]).season(), done[i]);
        }
    }

    // 13: "a seventh letter of a CALL: at it"
    private static void seventhLetterOfASeason() {
        for (char c = 'a'; c <= 'h'; c++) {
            DUE.is("13: a seventh", Due.text(Due.cave("0110"), "s00abcdef" + c).season(), -10);
            DUE.is("13: a seventh later", Due.text(Due.cave("0110"), "n1s00as00abcdef" + c + "n1").season(), -16);
        }
        DUE.is("13: six", Due.text(Due.cave("0110"), "s00abcdef").season(), 1);
        DUE.is("13: six and another one", Due.text(Due.cave("0110"), "s00abcdefs10abcdef").season(), 2);
    }

    // 13: "60, if it has more and the first 60 could go on or end"
    private static void moreThanSixty() {
        String[] sixty = {"n1".repeat(30), FIFTEEN_CALLS, "n1".repeat(29) + "s0", "s00aa".repeat(12), "n1".repeat(28) + "m045",
            "n1".repeat(28) + "s00a", "n1x0".repeat(14) + "m045"};
        boolean[] ends = {true, true, false, true, true, true, true};
        int[] acts = {30, 15, 0, 12, 29, 29, 29};
        for (int i = 0; i < sixty.length; i++) {
            DUE.is("13: sixty signs", sixty[i].length(), 60);
            for (String more : new String[] {"n", "a", "0", "x", ".", "n1", ".".repeat(20)}) {
                CaveAdvice x = Due.cave("0110");
                DUE.is("13: " + sixty[i] + more, Due.text(x, sixty[i] + more).season(), -61);
                DUE.is("13: nothing is done then", x.count(2) + x.count(3) + x.count(8) + x.count(9), 0);
            }
            DUE.is("13: " + sixty[i], Due.text(Due.cave("0110"), sixty[i]).season(), ends[i] ? acts[i] : -61);
        }
        for (int p = 0; p < 60; p++) {
            String wrong = sixty[0].substring(0, p) + "." + sixty[0].substring(p + 1) + "n1";
            DUE.is("13: a fault ahead of 60", Due.text(Due.cave("0110"), wrong).season(), -1 - p);
        }
        DUE.is("13: a seventh letter ahead of 60",
            Due.text(Due.cave("0110"), "n1".repeat(25) + "s00abcdefgn1").season(), -60);
        DUE.is("13: a seventh letter at 60",
            Due.text(Due.cave("0110"), "n1".repeat(24) + "x0n" + "0s00abcdefgn1").season(), -61);
    }

    // 13: "nothing is done then"
    private static void nothingIsDoneThen() {
        for (String text : new String[] {"n1x", "n9s00abcdefg", "x0x1x2.", "m0990", "s00an", "n1".repeat(30) + "."}) {
            CaveAdvice x = Due.text(Edges.worn(), text);
            String row = Edges.rowOf(x);
            DUE.holds("13: a fault: " + text, x.season() < 0);
            DUE.holds("13: the ROW stays", row.equals(Edges.rowOf(x)));
            DUE.holds("13: nothing is done", Edges.lookThrough(Due.text(x, "hag")).equals(Edges.lookThrough(Edges.worn())));
        }
    }

    // 13: "they are done one by one, till one is refused (it answers below 0): how many were done"
    private static void tillOneIsRefused() {
        String[] refused = {"x2", "x9", "m245", "m005", "m011", "m905", "s20a", "s02a", "s80a", "s90a", "s09a", "s19h", "s01a"};
        for (String act : refused) {
            CaveAdvice x = Due.cave("0111;2311");
            DUE.is("13: the third: " + act, Due.text(x, "n2n3" + act + "n4").season(), 2);
            DUE.row("13: one was refused", x, 1, 0);
            DUE.is("13: those ahead of it are done", x.count(2), 5);
            DUE.is("13: undone as one", x.undo(), 0);
            DUE.is("13: undone as one: HOUR", x.count(2), 0);
            DUE.is("13: the first: " + act, Due.text(x, act + "n4").season(), 0);
            DUE.row("13: one was refused", x, 1, 0);
            DUE.is("13: the last: " + act, Due.text(x, "n4" + act).season(), 1);
            DUE.row("13: one was refused", x, 1, 0);
        }
        CaveAdvice x = Due.cave("0111");
        DUE.is("13: 0 is not refused", Due.text(x, "x0n0n1").season(), 3);
        DUE.row("13: 0 is not refused", x, 0, 0);
    }

    // 13: "the ROW: 1 if one was refused, else 0; CALLED then"
    private static void seasonTellsTheRow() {
        CaveAdvice x = Due.cave("0111");
        Due.text(x, "s00abcs10d").season();
        DUE.row("13: not the LETTERS", x, 0, 2);
        Due.text(x, "s00ax0s00a").season();
        DUE.row("13: CALLED then", x, 1, 3);
        Due.text(x, "x0").season();
        DUE.row("13: CALLED ahead of it too", x, 0, 3);
    }

    /** Each act does what the call does that it is told as. */
    private static void seasonByItsCalls() {
        for (int n = 0; n <= 9; n++) {
            CaveAdvice x = Edges.worn();
            CaveAdvice y = Edges.worn();
            Due.text(x, "n" + n + "s00abcx3m1" + (n == 0 ? 1 : n) + n + "s10h").season();
            y.hours(n);
            Due.text(y, "abc").calls(0, 0);
            y.falls(3);
            y.digs(1, n == 0 ? 1 : n, n);
            Due.text(y, "h").calls(1, 0);
            for (int what = 0; what <= 7; what++) {
                DUE.is("13: as the calls, count(" + what + ")", x.count(what), y.count(what));
            }
            for (int q = 0; q < 4; q++) {
                for (int what = 0; what <= 5; what++) {
                    DUE.is("13: as the calls, PASSAGE " + q, x.passage(q, what), y.passage(q, what));
                }
            }
        }
    }

    // 14: "(of 15 that are kept, the latest ones ...)": "how many are left that can be"
    private static void undoFifteen() {
        for (int acts = 1; acts <= 20; acts++) {
            CaveAdvice x = new CaveAdvice();
            for (int i = 0; i < acts; i++) {
                x.hours(1);
            }
            int kept = Math.min(15, acts);
            DUE.is("14: what can be undone of " + acts, x.count(8), kept);
            for (int left = kept - 1; left >= 0; left--) {
                DUE.is("14: left", x.undo(), left);
                DUE.is("14: the latest first", x.count(2), acts - kept + left);
                DUE.is("14: counted", x.count(8), left);
            }
            DUE.is("14: none left", x.undo(), -1);
            DUE.is("14: what was before the fifteen stays", x.count(2), acts - kept);
        }
        CaveAdvice x = new CaveAdvice();
        for (int i = 0; i < 60; i++) {
            x.hours(1);
            x.hours(2);
            DUE.is("14: undone and done again and again", x.undo() >= 0 ? x.count(2) : -1, i + 1);
        }
        DUE.is("14: fifteen, of which the latest was undone", x.count(8), 14);
        for (int left = 13; left >= 0; left--) {
            DUE.is("14: the others", x.undo(), left);
        }
        DUE.is("14: what was before them stays", x.count(2), 46);
    }

    // 14: "such as were done"
    private static void undoSuchAsWereDone() {
        CaveAdvice x = Due.cave("0111");
        x.hours(61);
        x.falls(1);
        x.digs(0, 1, 1);
        x.digs(0, 0, 0);
        Due.text(x, "x").calls(0, 0);
        Due.text(x, "a").calls(2, 0);
        Due.text(x, "x9").season();
        Due.text(x, "x").season();
        Due.text(x, "").season();
        DUE.is("14: none was done", x.count(8), 0);
        x.hours(0);
        DUE.is("14: no HOURS were done", x.count(8), 1);
        x.undo();
        x.sheet(2, 1, 5, 0);
        Due.withRule(x, "v");
        x.told(0, 1);
        x.heard(0, 0, 0);
        x.keep(0);
        x.years(1, 60);
        DUE.is("14: other calls are not undone", x.count(8), 0);
        DUE.is("14: none", x.undo(), -1);
        DUE.is("14: the sheet stays", x.count(4), 5);
    }

    // 14: "season() of which one act was done, as one"
    private static void undoSeasonAsOne() {
        CaveAdvice x = Due.cave("0111;1222");
        String before = Edges.look(x);
        Due.text(x, "n3s00ax1m077n1x1").season();
        DUE.is("14: one", x.count(8), 1);
        DUE.is("14: as one", x.undo(), 0);
        DUE.holds("14: all of it", before.equals(Edges.look(x)));
        Due.text(x, "x0x9n5").season();
        DUE.is("14: of which one act was done", x.count(8), 1);
        DUE.is("14: undone", x.undo(), 0);
        DUE.holds("14: undone", before.equals(Edges.look(x)));
        Due.text(x, "x9x0").season();
        DUE.is("14: of which none was done", x.count(8), 0);
    }

    // 14: "Refused: none."
    private static void undoRefused() {
        CaveAdvice x = Due.cave("0111");
        x.sheet(2, 1, 4, 0);
        x.route(0, 0);
        String before = Edges.look(x) + Edges.rowOf(x);
        DUE.is("14: none", x.undo(), -1);
        DUE.holds("14: nothing changes", before.equals(Edges.look(x) + Edges.rowOf(x)));
        x.falls(0);
        DUE.is("14: one", x.undo(), 0);
        DUE.is("14: none again", x.undo(), -1);
    }

    // 14: "(passages() and again() forget them, if they are not refused ...)"
    private static void undoIsForgotten() {
        CaveAdvice x = Edges.worn();
        DUE.is("14: six", x.count(8), 6);
        DUE.is("14: one PASSAGE more", Due.text(x, "4511").passages(), 1);
        DUE.is("14: passages() forgets them", x.count(8), 0);
        DUE.is("14: none", x.undo(), -1);
        CaveAdvice y = Edges.worn();
        DUE.holds("14: again", y.again(0));
        DUE.is("14: again() forgets them", y.count(8), 0);
        DUE.is("14: none", y.undo(), -1);
        y.hours(1);
        DUE.is("14: one since", y.undo(), 0);
    }

    // 14: "if they are not refused; an empty passages() does not"
    private static void undoIsNotForgotten() {
        CaveAdvice x = Edges.worn();
        DUE.is("14: refused", Due.text(x, "4511;4").passages(), -7);
        DUE.is("14: a refused passages() does not", x.count(8), 6);
        DUE.is("14: empty", Due.text(x, "").passages(), 0);
        DUE.is("14: an empty passages() does not", x.count(8), 6);
        DUE.holds("14: nothing kept", !x.again(1));
        DUE.holds("14: no such", !x.again(3));
        DUE.is("14: a refused again() does not", x.count(8), 6);
        DUE.holds("14: all can be undone", Edges.lookThrough(Due.text(x, "hag")).equals(Edges.lookThrough(Edges.worn())));
    }

    // 14: "DELAY, BEND, WEAR, OPEN, HOUR, CALLED are as ahead of it"
    private static void undoBringsBackAll() {
        Edges.Asked[] acts = {x -> Due.text(x, "abc").calls(0, 0), x -> x.hours(3), x -> x.falls(1), x -> x.digs(2, 1, 1),
            x -> Due.text(x, "n1s00ax1m211").season()};
        for (int i = 0; i < acts.length; i++) {
            CaveAdvice x = Edges.worn();
            x.end(0);
            String before = Edges.look(x);
            DUE.holds("14: act " + i + " is done", acts[i].answer(x) >= 0);
            DUE.holds("14: act " + i + " changes", !before.equals(Edges.look(x)));
            String row = Edges.rowOf(x);
            DUE.is("14: act " + i + " is undone", x.undo(), 6);
            DUE.holds("14: as ahead of act " + i, before.equals(Edges.look(x)));
            DUE.holds("14: the ROW is not brought back", row.equals(Edges.rowOf(x)));
            acts[i].answer(x);
            x.sheet(2, 4, 9, 0);
            x.undo();
            DUE.holds("14: WEAR too, though a sheet came since", before.equals(Edges.look(x)));
        }
    }

    /** All of the twelve are brought back, the last one too. */
    private static void undoOfTwelve() {
        CaveAdvice x = Due.cave("0111;1212;2313;3414;4515;5616;6717;7018;0129;1238;2347;3456");
        String before = Edges.lookAtCave(x);
        for (int q = 0; q < 12; q++) {
            x.digs(q, 9, 9);
        }
        x.falls(11);
        x.sheet(2, 12, 5, 0);
        for (int left = 12; left >= 0; left--) {
            DUE.is("14: undone", x.undo(), left);
        }
        DUE.holds("14: all twelve are as ahead of it", before.equals(Edges.lookAtCave(x)));
    }

    /** What is refused takes none of the fifteen away. */
    private static void undoFifteenThoughOthersAreRefused() {
        Edges.Asked[] refused = {x -> x.hours(61), x -> x.falls(9), x -> x.digs(0, 1, 1), x -> Due.text(x, "").calls(0, 0),
            x -> Due.text(x, "x9").season() - 1, x -> Due.text(x, "x").season(), x -> x.years(1, 60) - 1000};
        for (int i = 0; i < refused.length; i++) {
            CaveAdvice x = Due.cave("0111");
            for (int act = 0; act < 15; act++) {
                x.hours(1);
            }
            DUE.holds("14: refused " + i, refused[i].answer(x) < 0);
            for (int left = 14; left >= 0; left--) {
                DUE.is("14: left behind refused " + i, x.undo(), left);
                DUE.is("14: HOUR behind refused " + i, x.count(2), left);
            }
        }
    }
}
