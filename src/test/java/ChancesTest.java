/** Promises 40 to 44: hints, a game, laws, rests, years. */
public final class ChancesTest {
    private static final Due DUE = new Due();

    public static void main(String[] args) {
        hints();
        longHints();
        game();
        law();
        rests();
        years();
        yearsDrawn();
        yearsChangeNothing();
        DUE.close();
    }

    private static void hints() {
        // By 0 one more, by 1 two more.
        CaveAdvice x = Due.cave("0111;1212");
        DUE.is("40: left by both", x.hints(0, 0, 3, 3, 5), 0);
        DUE.row("40: left by both", x, 1, 4);
        x.hints(0, 0, 3, 4, 2);
        DUE.row("40: changed by the first one", x, 4, 25);
        x.hints(0, 0, 3, 6, 2);
        DUE.row("40: changed by both", x, 16, 25);
        x.hints(0, 0, 3, 7, 2);
        DUE.row("40: never", x, 0, 1);
        x.hints(0, 0, 3, 6, 0);
        DUE.row("40: always changed", x, 1, 1);
        x.hints(0, 0, 3, 3, 10);
        DUE.row("40: always left", x, 1, 1);
        x.hints(0, 0, 3, 6, 10);
        DUE.row("40: never changed", x, 0, 1);
        int[][] wrong = {{2, 0, 0, 0, 0}, {0, 1, 0, 0, 0}, {0, 2, 0, 0, 0}, {8, 0, 0, 0, 0}, {0, 0, -1, 0, 0}, {0, 0, 8, 0, 0},
            {0, 0, 0, -1, 0}, {0, 0, 0, 8, 0}, {0, 0, 0, 0, -1}, {0, 0, 0, 0, 11}};
        for (int[] w : wrong) {
            DUE.is("40: refused", x.hints(w[0], w[1], w[2], w[3], w[4]), -1);
        }
        DUE.row("40: refused, the ROW stays", x, 0, 1);
    }

    private static void longHints() {
        // Twelve in a row, to and fro between 1 and 2, before it would come home to 0.
        CaveAdvice x = Due.cave("0110;1210;1210;1210;1210;1210;1210;1210;1210;1210;1210;1211");
        x.hints(0, 0, 0, 1, 9);
        DUE.row("40: by the last one alone", x, 1, 10);
        Due.withRule(x, "v+1");
        x.hints(0, 0, 0, 0, 3);
        // 12 of 12 left, or 8 of 12 changed (495 ways).
        long part = pow(3, 12) + 495 * pow(7, 8) * pow(3, 4);
        // That is 16 times an odd number that 5 does not divide.
        DUE.row("40: in lowest terms", x, part / 16, pow(10, 12) / 16);
    }

    private static long pow(long n, int times) {
        return times == 0 ? 1 : n * pow(n, times - 1);
    }

    private static void game() {
        CaveAdvice x = new CaveAdvice();
        // Of 3, 1 leaves the wall 2, of which it may ask but 2; of 4, 2 leaves it 2, of which it may
        // ask but 1, and the miner can't ask then; 1 would leave it 3, and its 2 would win.
        int[] two = {0, 0, 0, 1, 2};
        for (int n = 0; n < two.length; n++) {
            DUE.is("41: game(" + n + ", 2)", x.game(n, 2), two[n]);
        }
        for (int k = 2; k <= 9; k++) {
            for (int n = 0; n <= 60; n++) {
                DUE.is("41: game(" + n + ", " + k + ")", x.game(n, k), leastWinner(n, k));
            }
        }
        int[][] wrong = {{-1, 2}, {61, 2}, {5, 1}, {5, 10}, {5, -3}};
        for (int[] w : wrong) {
            DUE.is("41: refused", x.game(w[0], w[1]), -1);
        }
        DUE.is("41: no ROW", x.count(9), 0);
    }

    private static int leastWinner(int n, int k) {
        boolean[][] wins = new boolean[n + 1][k + 1];
        for (int left = 0; left <= n; left++) {
            for (int last = 0; last <= k; last++) {
                boolean stuck = true;
                for (int m = 1; m <= k && m <= left; m++) {
                    if (m != last) {
                        stuck = false;
                        wins[left][last] |= m < left && !wins[left - m][m];
                    }
                }
                wins[left][last] |= stuck;
            }
        }
        for (int m = 1; m <= k && m < n; m++) {
            if (!wins[n - m][m]) {
                return m;
            }
        }
        return 0;
    }

    private static void law() {
        CaveAdvice x = Due.cave("0111;2310");
        // THE RULE keeps none by 0 and all by 1: two ECHOES of eight LETTERS.
        DUE.is("42: the same", x.law(), 0);
        DUE.row("42: the same", x, 16, 16);
        DUE.is("42: all as they are", Due.text(x, "v").law(), 16);
        DUE.row("42: all as they are", x, 32, 16);
        DUE.is("42: the text is emptied", x.count(10), 0);
        DUE.is("42: one LETTER", Due.text(x, "5").law(), 4 - 16);
        DUE.row("42: one LETTER", x, 4, 16);
        DUE.is("42: place 0", Due.text(x, "v+p").law(), 16);
        DUE.is("42: e", Due.text(x, "v+e").law(), 0);
        Due.text(x, "v").rule();
        DUE.is("42: none", x.law(), -16);
        DUE.row("42: none", x, 16, 32);
        DUE.is("42: a fault", Due.text(x, "vv").law(), -10001);
        DUE.row("42: a fault, the ROW stays", x, 16, 32);
        DUE.is("42: a fault, the text is emptied", x.count(10), 0);
        Due.text(x, "c").hears(0, 0);
        DUE.row("42: THE RULE stays", x, 2);
        x.falls(0);
        x.falls(1);
        DUE.is("42: no ECHOES", Due.text(x, "v").law(), 0);
        DUE.row("42: no ECHOES", x, 0, 0);
    }

    private static void rests() {
        CaveAdvice x = new CaveAdvice();
        DUE.is("43: v 0", x.rests(0), 3);
        DUE.row("43: v 0", x, 0, 0);
        DUE.is("43: v 3, as 0", x.rests(3), 3);
        // A rope is worth 1 more: (0, 0) has 0 each; (1, 1) has 1 each, and 0 would have 1.
        DUE.is("43: v 4", x.rests(4), 2);
        DUE.row("43: v 4", x, 0, 0);
        DUE.is("43: v 8", x.rests(8), 1);
        DUE.is("43: v 20", x.rests(20), 1);
        DUE.row("43: v 20", x, 0, 0);
        DUE.is("43: v 21", x.rests(21), -1);
        DUE.is("43: v -1", x.rests(-1), -1);
        DUE.row("43: refused", x, 0, 0);
    }

    private static void years() {
        CaveAdvice x = new CaveAdvice();
        DUE.is("44: n 0", x.years(1, 0), -1);
        DUE.is("44: n 61", x.years(1, 61), -1);
        DUE.is("44: n -1", x.years(1, -1), -1);
        DUE.row("44: refused", x);
        DUE.is("44: no PASSAGES", x.years(7, 60), 0);
        DUE.row("44: no PASSAGES", x, 0, 0);
        DUE.is("44: HOUR stays", x.count(2), 0);
        DUE.is("44: nothing to undo", x.count(8), 0);
    }

    /** Each seed with what it draws, told anew by hand on a second cave. */
    private static void yearsDrawn() {
        for (int seed = -20; seed < 20; seed++) {
            CaveAdvice x = Due.cave("0110;1220;2030;2340");
            CaveAdvice y = Due.cave("0110;1220;2030;2340");
            x.hours(1);
            y.hours(1);
            int wear = x.years(seed * 77777777, 40);
            int echoes = 0;
            int[] r = {seed * 77777777};
            for (int i = 0; i < 40; i++) {
                int kind = draw(r, 4);
                if (kind == 0) {
                    y.hours(1);
                } else if (kind == 3) {
                    y.falls(draw(r, 4));
                } else {
                    int cavern = draw(r, 8);
                    echoes += Due.text(y, "a").calls(cavern, draw(r, 4)) >= 0 ? 1 : 0;
                }
            }
            DUE.is("44: WEAR of all", wear, y.count(4));
            DUE.row("44: seed " + seed, x, y.count(1), echoes);
        }
    }

    /** Questions change nothing: each seed's years leave the cave, what can be undone and what is kept. */
    private static void yearsChangeNothing() {
        for (int seed = -20; seed < 20; seed++) {
            CaveAdvice x = worn();
            CaveAdvice y = worn();
            Due.text(x, "0110");
            Due.text(y, "0110");
            x.years(seed * 77777777, 60);
            DUE.holds("44: all stays", alike(x, y));
            for (int left = 14; left >= 11; left--) {
                x.years(seed, 1 + left);
                DUE.is("44: can be undone as ahead of it", x.undo(), left);
                y.undo();
                DUE.holds("44: undone alike", alike(x, y));
            }
            x.years(seed, 1);
            DUE.holds("44: kept alike", x.again(1) && y.again(1) && alike(x, y));
            DUE.is("44: the same seed, the same answer", x.years(seed, 60), y.years(seed, 60));
            DUE.is("44: twice the same answer", x.years(seed, 60), y.years(seed, 60));
        }
    }

    /** More acts than can be undone, so that each slot of what is kept has been used. */
    private static CaveAdvice worn() {
        CaveAdvice x = Due.cave("0110;1220;2030;2340");
        x.sheet(2, 4, 3, 2);
        x.falls(3);
        x.keep(1);
        for (int i = 0; i < 20; i++) {
            Due.text(x, "a").calls(i % 3, i % 2);
            x.hours(i % 2);
            x.digs(i % 4, 1 + i % 9, i % 10);
        }
        x.falls(3);
        return x;
    }

    private static boolean alike(CaveAdvice x, CaveAdvice y) {
        boolean same = true;
        for (int what = 0; what <= 10; what++) {
            same &= what == 9 || x.count(what) == y.count(what);
        }
        for (int passage = 0; passage < x.count(0); passage++) {
            for (int what = 0; what <= 5; what++) {
                same &= x.passage(passage, what) == y.passage(passage, what);
            }
        }
        return same;
    }

    private static int draw(int[] r, int n) {
        r[0] = r[0] * 1103515245 + 12345;
        return (int) (Integer.toUnsignedLong(r[0]) / 65536) % n;
    }
}
