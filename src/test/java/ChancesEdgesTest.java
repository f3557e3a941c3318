/** Boundary cases that promises 40 to 44 name, each sentence with a test of its own. */
public final class ChancesEdgesTest {
    private static final Due DUE = new Due();
    private static final String TWELVE = "0111;1211;2111;1211;2111;1211;2111;1211;2111;1211;2111;1211";

    public static void main(String[] args) {
        hintsInRange();
        hintsOthers();
        hintsByTwelve();
        hintsEachByItself();
        hintsAtPlaceZero();
        gameInRange();
        gameOthers();
        whoAsksTheLast();
        whoCantAsk();
        notAsManyAsJustNow();
        gameByNone();
        lawEmpty();
        lawBelowZero();
        lawFaults();
        lawWithoutEchoes();
        lawOfAllEchoes();
        restsInRange();
        restsOthers();
        restsCut();
        yearsInRange();
        yearsOthers();
        yearsWithoutPassages();
        drawsAsInts();
        yearsOneByOne();
        yearsKeepBounds();
        DUE.close();
    }

    // 40: "a LETTER v (0 .. 7) ... by p tenths (0 .. 10) ... as LETTER w (0 .. 7)"
    private static void hintsInRange() {
        CaveAdvice x = Due.cave("0113");
        long[][] lowest = {{0, 1}, {1, 10}, {1, 5}, {3, 10}, {2, 5}, {1, 2}, {3, 5}, {7, 10}, {4, 5}, {9, 10}, {1, 1}};
        for (int v : new int[] {0, 7}) {
            for (int p = 0; p <= 10; p++) {
                DUE.is("40: left", x.hints(0, 0, v, v, p), 0);
                DUE.row("40: left by " + p, x, lowest[p]);
                DUE.is("40: changed", x.hints(1, 0, v, v + 3 & 7, p), 0);
                DUE.row("40: changed, left by " + p, x, lowest[10 - p]);
            }
        }
        for (int w = 0; w <= 7; w++) {
            x.hints(0, 0, 5, w, 4);
            DUE.row("40: 5 comes out as " + w, x, w == 5 ? 2 : w == 0 ? 3 : 0, w == 5 || w == 0 ? 5 : 1);
        }
        Due.withRule(x, "v");
        x.hints(0, 0, 7, 7, 3);
        DUE.row("40: changed into itself: sure", x, 1, 1);
    }

    // 40: "NONE: others."
    private static void hintsOthers() {
        CaveAdvice x = Edges.worn();
        String row = Edges.rowOf(x);
        for (int n : Edges.outside(0, 7)) {
            DUE.is("40: CAVERN " + n, x.hints(n, 0, 0, 0, 5), -1);
            DUE.is("40: v " + n, x.hints(0, 0, n, 0, 5), -1);
            DUE.is("40: w " + n, x.hints(0, 0, 0, n, 5), -1);
        }
        for (int q : Edges.outside(0, 3)) {
            DUE.is("40: PASSAGE " + q, x.hints(0, q, 0, 0, 5), -1);
        }
        for (int p : Edges.outside(0, 10)) {
            DUE.is("40: p " + p, x.hints(0, 0, 0, 0, p), -1);
        }
        DUE.is("40: not OPEN", x.hints(0, 3, 0, 0, 5), -1);
        DUE.holds("40: the ROW stays", row.equals(Edges.rowOf(x)));
        DUE.holds("40: nothing changes", Edges.lookThrough(x).equals(Edges.lookThrough(Edges.worn())));
    }

    /** Twelve PASSAGES: the greatest lower number, 10 twelve times with itself. */
    private static void hintsByTwelve() {
        CaveAdvice x = Due.withRule(Due.cave(TWELVE), "v+(v<7)");
        x.hints(0, 0, 0, 0, 1);
        DUE.row("40: left by all twelve", x, 1, 1000000000000L);
        x.hints(0, 0, 0, 0, 9);
        DUE.row("40: left by all twelve", x, 282429536481L, 1000000000000L);
        x.hints(0, 0, 6, 6, 5);
        DUE.row("40: halves", x, 1, 4096);
        x.hints(0, 0, 6, 7, 5);
        DUE.row("40: changed once at least", x, 4095, 4096);
        x.hints(0, 0, 6, 7, 9);
        DUE.row("40: changed once at least", x, 1000000000000L - 282429536481L, 1000000000000L);
        x.hints(0, 0, 0, 7, 0);
        DUE.row("40: changed by all twelve", x, 1, 1);
        x.hints(0, 0, 0, 6, 10);
        DUE.row("40: left by all twelve", x, 0, 1);
        Due.withRule(x, "7-v");
        x.hints(0, 0, 3, 3, 5);
        DUE.row("40: changed there and back", x, 1, 2);
    }

    // 40: "by each PASSAGE ..., each by itself"
    private static void hintsEachByItself() {
        CaveAdvice x = Due.cave("0111;1212;2314");
        long[] times = {27, 63, 63, 147, 63, 147, 147, 343};
        for (int w = 0; w <= 7; w++) {
            x.hints(0, 0, 0, w, 3);
            DUE.row("40: by those bits of " + w + " that it is changed", x, times[w], 1000);
        }
    }

    // 40: "at place 0"
    private static void hintsAtPlaceZero() {
        CaveAdvice x = Due.withRule(Due.cave("0115"), "v+p+1");
        x.hints(0, 0, 2, 3, 0);
        DUE.row("40: p is 0", x, 1, 1);
        Due.withRule(x, "v+e*2+n");
        x.hours(3);
        x.hints(1, 0, 2, 7, 0);
        DUE.row("40: e is 1 from OTHER, n is 3", x, 1, 1);
    }

    // 41: "n (0 .. 60) questions are left; each asks 1 .. k (2 .. 9)"
    private static void gameInRange() {
        CaveAdvice x = new CaveAdvice();
        for (int k = 2; k <= 9; k++) {
            DUE.is("41: no questions", x.game(0, k), 0);
            DUE.is("41: one question", x.game(1, k), 0);
            for (int n = 2; n <= 60; n += 29) {
                int move = x.game(n, k);
                DUE.holds("41: 0 .. k of " + n, move >= 0 && move <= k && move < n);
            }
        }
    }

    /** By trying: wins[n][last] as the one who asks now sees it. */
    private static int leastWinning(int n, int k) {
        boolean[][] wins = new boolean[n + 1][k + 1];
        for (int left = 0; left <= n; left++) {
            for (int last = 0; last <= k; last++) {
                boolean can = false;
                for (int ask = 1; ask <= Math.min(k, left); ask++) {
                    can |= ask != last;
                    wins[left][last] |= ask != last && ask < left && !wins[left - ask][ask];
                }
                wins[left][last] |= !can;
            }
        }
        for (int ask = 1; ask <= k && ask < n; ask++) {
            if (!wins[n - ask][ask]) {
                return ask;
            }
        }
        return 0;
    }

    // 41: "NONE: others."
    private static void gameOthers() {
        CaveAdvice x = Edges.worn();
        for (int n : Edges.outside(0, 60)) {
            DUE.is("41: n " + n, x.game(n, 2), -1);
            DUE.is("41: n " + n, x.game(n, 9), -1);
        }
        for (int k : Edges.outside(2, 9)) {
            DUE.is("41: k " + k, x.game(10, k), -1);
            DUE.is("41: k " + k + " of none", x.game(0, k), -1);
        }
        DUE.is("41: k 1", x.game(1, 1), -1);
        DUE.is("41: k 0", x.game(1, 0), -1);
        DUE.holds("41: nothing changes", Edges.lookThrough(x).equals(Edges.lookThrough(Edges.worn())));
    }

    // 41: "who asks the last one has lost"
    private static void whoAsksTheLast() {
        CaveAdvice x = new CaveAdvice();
        for (int k = 2; k <= 9; k++) {
            DUE.is("41: the miner must ask the last", x.game(1, k), 0);
        }
        // Of 2, asking 2 loses at once; asking 1 leaves one, which the wall may not ask: it has won.
        DUE.is("41: of 2 by none", x.game(2, 2), 0);
        DUE.is("41: of 2 by none, 9", x.game(2, 9), 0);
    }

    // 41: "who can't ask has won"
    private static void whoCantAsk() {
        CaveAdvice x = new CaveAdvice();
        // Of 3: 1 leaves 2, of which the wall may ask but 2, the last one. Of 4 by 2: 2 leaves 2, of which
        // the wall may ask but 1, and the miner can't ask 1 then.
        DUE.is("41: of 3 by 1", x.game(3, 2), 1);
        DUE.is("41: of 4 by 2", x.game(4, 2), 2);
    }

    // 41: "but not as many as were asked just now by the other one"; "(nothing having been asked yet)"
    private static void notAsManyAsJustNow() {
        CaveAdvice x = new CaveAdvice();
        for (int k = 2; k <= 9; k++) {
            for (int n = 0; n <= 60; n++) {
                DUE.is("41: " + n + ", " + k, x.game(n, k), leastWinning(n, k));
            }
            x = new CaveAdvice();
        }
    }

    // 41: "0: by none."
    private static void gameByNone() {
        CaveAdvice x = new CaveAdvice();
        DUE.is("41: of none by none", x.game(0, 2), 0);
        DUE.is("41: of 1 by none", x.game(1, 5), 0);
        DUE.is("41: of 2 by none", x.game(2, 5), 0);
        DUE.is("41: no ROW", x.count(9), 0);
    }

    // 42: "(an empty one: none)"
    private static void lawEmpty() {
        CaveAdvice x = Due.withRule(Due.cave("0110;2311"), "v+1");
        DUE.is("42: none keeps those of BEND 0", x.law(), 16);
        DUE.row("42: by it, by THE RULE", x, 16, 0);
        Due.withRule(x, "");
        DUE.is("42: none by none", x.law(), 0);
        DUE.row("42: both", x, 16, 16);
        x.sheet(2, 2, 3, 0);
        DUE.is("42: none: v+b-w/3", x.law(), 0);
        DUE.row("42: WEAR 3 takes 1", x, 16, 16);
    }

    // 42: "how many (below 0, too)"
    private static void lawBelowZero() {
        CaveAdvice x = Due.withRule(Due.cave(TWELVE), "v");
        x.rounds();
        long echoes = x.row(0);
        DUE.is("42: ECHOES", echoes, 24);
        DUE.is("42: the least there can be", Due.text(x, "v+(v<4)-(v>3)+(v=4)*5-(v=3)*3").law() < 0 ? 1 : 0, 1);
        DUE.is("42: one LETTER each", Due.text(x, "0").law(), 24 - 192);
        DUE.row("42: both", x, 24, 192);
        Due.withRule(x, "0");
        DUE.is("42: above 0", Due.text(x, "v").law(), 192 - 24);
        DUE.row("42: both", x, 192, 24);
    }

    // 42: "-10000 - p: the sign at p can't stand there (as rule())."
    private static void lawFaults() {
        CaveAdvice x = Edges.worn();
        String row = Edges.rowOf(x);
        DUE.is("42: at 0", Due.text(x, "x").law(), -10000);
        DUE.is("42: its end", Due.text(x, "v+").law(), -10002);
        DUE.is("42: a fourth digit", Due.text(x, "1234").law(), -10003);
        DUE.is("42: at 40", Due.text(x, "-".repeat(80)).law(), -10040);
        DUE.is("42: THE TEXT is emptied", x.count(10), 0);
        DUE.holds("42: the ROW stays", row.equals(Edges.rowOf(x)));
        DUE.holds("42: THE RULE stays", Edges.lookThrough(Due.text(x, "hag")).equals(Edges.lookThrough(Edges.worn())));
    }

    private static void lawWithoutEchoes() {
        CaveAdvice x = Due.text(new CaveAdvice(), "v");
        DUE.is("42: no PASSAGES", x.law(), 0);
        DUE.row("42: no PASSAGES", x, 0, 0);
        CaveAdvice y = Due.cave("0111");
        y.falls(0);
        DUE.is("42: none OPEN", Due.text(y, "v").law(), 0);
        DUE.row("42: none OPEN", y, 0, 0);
    }

    // 42: "of all ECHOES that can be made, LETTERS at place 0"
    private static void lawOfAllEchoes() {
        CaveAdvice x = Due.cave("0714;0714");
        DUE.is("42: place 0", Due.text(x, "v+p").law(), 0);
        DUE.row("42: four ECHOES, 4 and 4 is 0", x, 32, 32);
        DUE.is("42: e", Due.text(x, "v+e*4").law(), -32);
        x.falls(1);
        DUE.is("42: two ECHOES", Due.text(x, "v+e*4").law(), 8);
        DUE.row("42: two ECHOES", x, 8, 0);
        x.hours(60);
        DUE.is("42: n is 4", Due.text(x, "v+n*2").law(), 16);
    }

    // 43: "v (0 .. 20)"
    private static void restsInRange() {
        // v by 4 (cut) is 0, 1, 2, 3, 4, 5.
        int[] pairs = {3, 2, 1, 1, 1, 1};
        for (int v = 0; v <= 20; v++) {
            CaveAdvice x = new CaveAdvice();
            DUE.is("43: v " + v, x.rests(v), restsByTrying(v));
            DUE.is("43: v " + v, x.rests(v), pairs[v / 4]);
            DUE.row("43: the least", x, 0, 0);
        }
    }

    private static int restsByTrying(int v) {
        int[][] has = new int[10][10];
        for (int x = 0; x < 10; x++) {
            for (int y = 0; y < 10; y++) {
                has[x][y] = x < y ? x + v / 4 : x > y ? -1 : (x + v / 4) / 2;
            }
        }
        int pairs = 0;
        for (int x = 0; x < 10; x++) {
            for (int y = 0; y < 10; y++) {
                boolean rests = true;
                for (int z = 0; z < 10; z++) {
                    rests &= has[z][y] <= has[x][y] && has[z][x] <= has[y][x];
                }
                pairs += rests ? 1 : 0;
            }
        }
        return pairs;
    }

    // 43: "NONE: another v."
    private static void restsOthers() {
        CaveAdvice x = Edges.worn();
        String row = Edges.rowOf(x);
        for (int v : Edges.outside(0, 20)) {
            DUE.is("43: v " + v, x.rests(v), -1);
        }
        DUE.holds("43: the ROW stays", row.equals(Edges.rowOf(x)));
    }

    // 43: "by 4 (cut)"; "half of that (cut)"
    private static void restsCut() {
        CaveAdvice x = new CaveAdvice();
        DUE.is("43: 3 by 4 is 0", x.rests(3), x.rests(0));
        DUE.is("43: 7 by 4 is 1", x.rests(7), x.rests(4));
        DUE.holds("43: 8 by 4 is 2", x.rests(8) != x.rests(7));
        // Of like ones: 1 has 0 (half of 1, cut), and 0 would have 0; 2 has 1, and 1 would have 1.
        DUE.is("43: 0, 1 and 2 with themselves", x.rests(0), 3);
    }

    // 44: "n times (1 .. 60)"
    private static void yearsInRange() {
        CaveAdvice x = Due.cave("0110;0120;1230");
        for (int n = 1; n <= 60; n++) {
            DUE.holds("44: n " + n, x.years(n, n) >= 0);
            DUE.is("44: a ROW of two", x.count(9), 2);
        }
    }

    // 44: "NONE: another n."
    private static void yearsOthers() {
        CaveAdvice x = Edges.worn();
        String row = Edges.rowOf(x);
        for (int n : Edges.outside(1, 60)) {
            DUE.is("44: n " + n, x.years(1, n), -1);
        }
        DUE.is("44: n 0", x.years(1, 0), -1);
        DUE.holds("44: the ROW stays", row.equals(Edges.rowOf(x)));
        DUE.holds("44: nothing changes", Edges.lookThrough(x).equals(Edges.lookThrough(Edges.worn())));
    }

    // 44: "(1 .. 3: no DRAWS without PASSAGES)"
    private static void yearsWithoutPassages() {
        CaveAdvice x = new CaveAdvice();
        for (int seed = -5; seed <= 5; seed++) {
            DUE.is("44: no PASSAGES", x.years(seed, 60), 0);
            DUE.row("44: no PASSAGES", x, 0, 0);
            DUE.is("44: HOUR stays", x.count(2), 0);
        }
    }

    private static int draw(int[] r, int n) {
        long next = (r[0] * 1103515245L + 12345L) & 0xffffffffL;
        r[0] = (int) next;
        return (int) (next / 65536 % n);
    }

    /** What years() is due to answer, told by the calls themselves on a second cave. */
    private static void compareYears(String sentence, String lines, int wearOfEach, int seed, int n) {
        CaveAdvice x = Due.cave(lines);
        x.sheet(2, 12, wearOfEach, 0);
        int wear = x.years(seed, n);
        CaveAdvice y = Due.cave(lines);
        y.sheet(2, 12, wearOfEach, 0);
        int[] r = {seed};
        int echoes = 0;
        for (int i = 0; i < n; i++) {
            int kind = draw(r, 4);
            if (kind == 0) {
                y.hours(1);
            } else if (kind == 3) {
                y.falls(draw(r, y.count(0)));
            } else {
                int cavern = draw(r, 8);
                echoes += Due.text(y, "a").calls(cavern, draw(r, y.count(0))) >= 0 ? 1 : 0;
            }
        }
        DUE.is(sentence + ", seed " + seed + ", n " + n, wear, y.count(4));
        DUE.row(sentence + ", seed " + seed + ", n " + n, x, y.count(1), echoes);
    }

    // 44: "R = R times 1103515245 + 12345 (as ints; R is seed at first), (R without sign, by 65536) % n"
    private static void drawsAsInts() {
        int[] seeds = {0, 1, -1, 2, 12345, -12345, 65535, 65536, 1 << 30, -(1 << 30), Integer.MAX_VALUE, Integer.MIN_VALUE,
            Integer.MAX_VALUE - 1, Integer.MIN_VALUE + 1, 0x12345678, -0x12345678};
        for (int seed : seeds) {
            compareYears("44: as ints", "0711;1622;2533;3444;0155;1266;2377", 0, seed, 60);
            compareYears("44: twelve", TWELVE, 0, seed, 60);
            compareYears("44: one PASSAGE", "0710", 0, seed, 60);
        }
    }

    private static void yearsOneByOne() {
        for (int n = 1; n <= 60; n++) {
            compareYears("44: n times", "0110;1020;0330;3440;4050", 0, 7 * n, n);
        }
        for (int seed = 0; seed < 64; seed++) {
            compareYears("44: once", "0110;1020;0330;3440;4050", 0, seed << 24, 1);
        }
    }

    // 9, 10: WEAR 9 at most and 0 at least, in years too
    private static void yearsKeepBounds() {
        for (int seed = 0; seed < 30; seed++) {
            compareYears("44: 9 at most", "0110;1210;2310;3410;4510;5610;6710;7010", 9, seed, 60);
            compareYears("44: 0 at least", "0110;1210;2310;3410;4510;5610;6710;7010", 1, seed, 20);
        }
    }
}
