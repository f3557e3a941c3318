/** Boundary cases that promises 32 to 39 name, each sentence with a test of its own. */
public final class CluesEdgesTest {
    private static final Due DUE = new Due();

    public static void main(String[] args) {
        toldInRange();
        toldOthers();
        toldTwelve();
        forgetsNone();
        delayOrMore();
        anEndOfIt();
        bendIs();
        openOrNot();
        wearOrLess();
        fitsAllThatWasTold();
        nextOfEqualOnes();
        nextOfOne();
        nextOfNone();
        heardInRange();
        heardOthers();
        heardTen();
        deniesNone();
        lawsOfAllAndNone();
        leastLaw();
        listensOfEqualOnes();
        listensOfOne();
        listensOfNone();
        DUE.close();
    }

    // 32: "DELAY is v (1 .. 9) or more; 1: CAVERN v (0 .. 7) ...; 2: BEND is v (0 .. 9); 3: ... (1) or not (0); 4: WEAR is v (0 .. 9)"
    private static final int[] LEAST = {1, 0, 0, 0, 0};
    private static final int[] MOST = {9, 7, 9, 1, 9};

    private static void toldInRange() {
        for (int what = 0; what <= 4; what++) {
            CaveAdvice x = new CaveAdvice();
            for (int v = LEAST[what]; v <= MOST[what]; v++) {
                int many = v - LEAST[what] + 1;
                DUE.is("32: what " + what + ", v " + v, x.told(what, v), many);
                DUE.is("32: how many such", x.count(6), many);
            }
        }
    }

    // 32: "Refused: others"
    private static void toldOthers() {
        CaveAdvice x = Edges.worn();
        for (int what = 0; what <= 4; what++) {
            for (int v : Edges.outside(LEAST[what], MOST[what])) {
                DUE.is("32: what " + what + ", v " + v, x.told(what, v), -1);
            }
        }
        for (int what : Edges.outside(0, 4)) {
            DUE.is("32: what " + what, x.told(what, 1), -1);
        }
        DUE.holds("32: nothing changes", Edges.lookThrough(x).equals(Edges.lookThrough(Edges.worn())));
    }

    // 32: "Refused: ... 12."
    private static void toldTwelve() {
        CaveAdvice x = Due.cave("0111;1211");
        for (int i = 1; i <= 11; i++) {
            DUE.is("32: told", x.told(1, 1), i);
        }
        DUE.is("32: the twelfth", x.told(1, 0), 12);
        DUE.is("32: a thirteenth", x.told(1, 7), -1);
        DUE.is("32: another one", x.told(3, 0), -1);
        DUE.is("32: twelve", x.count(6), 12);
        DUE.is("32: the twelfth counts, no thirteenth", x.fits(), 1);
        DUE.is("33: how many there were", x.forget(), 12);
        DUE.is("32: told anew", x.told(1, 2), 1);
        DUE.is("32: that alone", x.fits(), 2);
    }

    // 33: none
    private static void forgetsNone() {
        CaveAdvice x = new CaveAdvice();
        DUE.is("33: none", x.forget(), 0);
        x.told(0, 1);
        DUE.is("33: one", x.forget(), 1);
        DUE.is("33: none left", x.forget(), 0);
        DUE.is("33: none left", x.count(6), 0);
        CaveAdvice y = Edges.worn();
        y.forget();
        DUE.is("33: what was heard stays", y.count(7), 1);
    }

    /** Passages of which passage i has DELAY i + 1 (the last one 9), BEND i, WEAR 9 - i. */
    private static CaveAdvice stairs() {
        CaveAdvice x = Due.cave("0110;0121;0132;0143;0154;0165;0176;0187;0198;7699");
        x.sheet(2, 10, 9, -1);
        return x;
    }

    private static int fits(CaveAdvice x, int what, int v) {
        x.forget();
        x.told(what, v);
        int bits = x.fits();
        DUE.row("34: how many", x, Integer.bitCount(bits));
        return bits;
    }

    // 32: "0: DELAY is v (1 .. 9) or more"
    private static void delayOrMore() {
        CaveAdvice x = stairs();
        for (int v = 1; v <= 9; v++) {
            DUE.is("32: DELAY " + v + " or more", fits(x, 0, v), 1023 & -1 << v - 1);
        }
    }

    // 32: "1: CAVERN v (0 .. 7) is an end of it"
    private static void anEndOfIt() {
        CaveAdvice x = stairs();
        int[] want = {511, 511, 0, 0, 0, 0, 512, 512};
        for (int v = 0; v <= 7; v++) {
            DUE.is("32: CAVERN " + v, fits(x, 1, v), want[v]);
        }
    }

    // 32: "2: BEND is v (0 .. 9)"
    private static void bendIs() {
        CaveAdvice x = stairs();
        for (int v = 0; v <= 9; v++) {
            DUE.is("32: BEND " + v, fits(x, 2, v), 1 << v);
        }
    }

    // 32: "3: it is OPEN (1) or not (0)"
    private static void openOrNot() {
        CaveAdvice x = stairs();
        DUE.is("32: all OPEN", fits(x, 3, 1), 1023);
        DUE.is("32: none not", fits(x, 3, 0), 0);
        x.falls(9);
        x.falls(0);
        DUE.is("32: OPEN", fits(x, 3, 1), 510);
        DUE.is("32: not", fits(x, 3, 0), 513);
    }

    // 32: "4: WEAR is v (0 .. 9) or less"
    private static void wearOrLess() {
        CaveAdvice x = stairs();
        for (int v = 0; v <= 9; v++) {
            DUE.is("32: WEAR " + v + " or less", fits(x, 4, v), 1023 & -512 >> v);
        }
    }

    // 34: "PASSAGES (bits) that fit all that was told"
    private static void fitsAllThatWasTold() {
        CaveAdvice none = new CaveAdvice();
        DUE.is("34: no PASSAGES", none.fits(), 0);
        DUE.row("34: no PASSAGES", none, 0);
        CaveAdvice x = stairs();
        DUE.is("34: nothing told", x.fits(), 1023);
        DUE.row("34: nothing told", x, 10);
        x.told(0, 4);
        x.told(4, 6);
        DUE.is("34: both", x.fits(), 1023 - 1 - 2 - 4);
        x.told(4, 5);
        DUE.is("34: another one", x.fits(), 1023 - 1 - 2 - 4 - 8);
        x.told(2, 5);
        DUE.is("34: all three", x.fits(), 32);
        x.told(2, 6);
        DUE.is("34: none", x.fits(), 0);
        DUE.row("34: none", x, 0);
        CaveAdvice twelve = Due.cave("0110;0110;0110;0110;0110;0110;0110;0110;0110;0110;0110;0110");
        DUE.is("34: twelve", twelve.fits(), 4095);
        DUE.row("34: twelve", twelve, 12);
        twelve.hours(1);
        DUE.is("34: as they are now", fits(twelve, 4, 0), 4095);
        twelve.falls(11);
        DUE.is("34: as they are now", fits(twelve, 3, 0), 2048);
    }

    // 35: "of equal ones the first"
    private static void nextOfEqualOnes() {
        CaveAdvice x = Due.cave("6710;6710;4510;4510");
        DUE.is("35: 4, 5, 6, 7 are equal", x.next(), 4);
        DUE.row("35: two at most", x, 2);
        Due.text(x, "4310").passages();
        DUE.is("35: three and two", x.next(), 4);
        DUE.row("35: three and two", x, 3);
        x.told(1, 6);
        DUE.is("35: all alike: of all CAVERNS the first", x.next(), 0);
        DUE.row("35: all alike", x, 2);
        CaveAdvice y = Due.cave("0110;0110;0110;0210");
        DUE.is("35: 1 or 2: one or three", y.next(), 1);
        DUE.row("35: 1 or 2: one or three", y, 3);
        CaveAdvice seven = Due.cave("6510;6710");
        DUE.is("35: 5 or 7", seven.next(), 5);
        DUE.row("35: 5 or 7", seven, 1);
        CaveAdvice both = Due.cave("0710;1710;2310;4510");
        DUE.is("35: 7 alone parts them", both.next(), 7);
        DUE.row("35: 7 alone parts them", both, 2);
        CaveAdvice last = Due.cave("0510;0510;0610;0610;1710;2710;3710;4710");
        DUE.is("35: 7 parts them, but 0 too", last.next(), 0);
        last.falls(0);
        DUE.is("35: those not OPEN too", last.next(), 0);
    }

    private static void nextOfOne() {
        CaveAdvice x = Due.cave("6710");
        DUE.is("35: one alone", x.next(), 0);
        DUE.row("35: one alone", x, 1);
        CaveAdvice twelve = Due.cave("0110;0110;0110;0110;0110;0110;0110;0110;0110;0110;0110;0110");
        DUE.is("35: twelve alike", twelve.next(), 0);
        DUE.row("35: twelve alike", twelve, 12);
    }

    // 35: "-2: none fits"
    private static void nextOfNone() {
        DUE.is("35: no PASSAGES", new CaveAdvice().next(), -2);
        CaveAdvice x = Due.cave("0110");
        x.route(0, 0);
        x.told(2, 9);
        DUE.is("35: none fits", x.next(), -2);
        DUE.row("35: the ROW stays", x, 1, 0);
    }

    // 36: "LETTER v (0 .. 7) by BEND b (0 .. 9) became w (0 .. 7)"
    private static void heardInRange() {
        for (int v = 0; v <= 7; v++) {
            for (int b = 0; b <= 9; b++) {
                CaveAdvice x = new CaveAdvice();
                for (int w = 0; w <= 7; w++) {
                    DUE.is("36: heard", x.heard(v, b, w), w + 1);
                    DUE.is("36: how many such", x.count(7), w + 1);
                }
            }
        }
    }

    // 36: "Refused: others"
    private static void heardOthers() {
        CaveAdvice x = Edges.worn();
        for (int n : Edges.outside(0, 7)) {
            DUE.is("36: LETTER " + n, x.heard(n, 0, 0), -1);
            DUE.is("36: it became " + n, x.heard(0, 0, n), -1);
        }
        for (int b : Edges.outside(0, 9)) {
            DUE.is("36: BEND " + b, x.heard(0, b, 0), -1);
        }
        DUE.holds("36: nothing changes", Edges.lookThrough(x).equals(Edges.lookThrough(Edges.worn())));
    }

    // 36: "Refused: ... 10."
    private static void heardTen() {
        CaveAdvice x = new CaveAdvice();
        for (int i = 1; i <= 9; i++) {
            DUE.is("36: heard", x.heard(1, 0, 5), i);
        }
        DUE.is("36: the tenth", x.heard(0, 1, 6), 10);
        DUE.is("36: an eleventh", x.heard(0, 1, 7), -1);
        DUE.is("36: ten", x.count(7), 10);
        DUE.is("36: the tenth counts, no eleventh", x.laws(), 1);
        DUE.row("36: the tenth counts, no eleventh", x, 5, 6);
        DUE.is("37: how many there were", x.denied(), 10);
        DUE.is("36: heard anew", x.heard(0, 1, 7), 1);
        x.laws();
        DUE.row("36: that alone", x, 0, 7);
    }

    // 37: none
    private static void deniesNone() {
        CaveAdvice x = new CaveAdvice();
        DUE.is("37: none", x.denied(), 0);
        x.heard(0, 0, 0);
        DUE.is("37: one", x.denied(), 1);
        DUE.is("37: none left", x.denied(), 0);
        DUE.is("37: none left", x.count(7), 0);
        CaveAdvice y = Edges.worn();
        y.denied();
        DUE.is("37: what was told stays", y.count(6), 2);
    }

    // 38: "(nothing without)"
    private static void lawsOfAllAndNone() {
        CaveAdvice x = new CaveAdvice();
        DUE.is("38: all", x.laws(), 64);
        DUE.row("38: the least", x, 0, 0);
        x.heard(0, 0, 0);
        DUE.is("38: all that leave 0", x.laws(), 64);
        x.heard(0, 8, 0);
        DUE.is("38: by BEND 8, as by 0", x.laws(), 64);
        x.heard(0, 0, 1);
        DUE.is("38: none", x.laws(), 0);
        DUE.row("38: nothing without", x);
        x.denied();
        x.heard(0, 8, 1);
        x.rounds();
        DUE.is("38: none by BEND 8", x.laws(), 0);
        DUE.row("38: nothing without", x);
    }

    // 38: "the least a, b", for each law
    private static void leastLaw() {
        for (int a = 0; a < 8; a++) {
            for (int b = 0; b < 8; b++) {
                CaveAdvice x = new CaveAdvice();
                x.heard(0, 9, b);
                DUE.is("38: b alone", x.laws(), 8);
                DUE.row("38: the least a", x, 0, b);
                x.heard(7, 9, 7 * a + 9 * b & 7);
                DUE.is("38: one", x.laws(), 1);
                DUE.row("38: one", x, a, b);
                x.denied();
                x.heard(1, 0, a);
                DUE.is("38: a alone", x.laws(), 8);
                DUE.row("38: the least b", x, a, 0);
            }
        }
    }

    // 39: "of equal ones the least"
    private static void listensOfEqualOnes() {
        CaveAdvice x = new CaveAdvice();
        DUE.is("39: of many the least: LETTER 0, BEND 1", x.listens(), 1);
        DUE.row("39: eight at most", x, 8);
        x.heard(0, 1, 3);
        DUE.is("39: LETTER 1, BEND 0", x.listens(), 10);
        DUE.row("39: one at most", x, 1);
        x.denied();
        x.heard(1, 0, 3);
        DUE.is("39: LETTER 0, BEND 1", x.listens(), 1);
        DUE.row("39: one at most", x, 1);
        x.denied();
        x.heard(1, 1, 0);
        // a and b together are 0: LETTER 0 by BEND 1 tells b, and with it a.
        DUE.is("39: b tells a", x.listens(), 1);
        DUE.row("39: b tells a", x, 1);
    }

    private static void listensOfOne() {
        CaveAdvice x = new CaveAdvice();
        x.heard(0, 1, 3);
        x.heard(1, 0, 5);
        DUE.is("39: one law: LETTER 0, BEND 0", x.listens(), 0);
        DUE.row("39: one at most", x, 1);
        x.denied();
        x.heard(0, 1, 0);
        x.heard(2, 0, 0);
        // a is 0 or 4, b is 0: any odd LETTER tells.
        DUE.is("39: LETTER 1, BEND 0", x.listens(), 10);
        DUE.row("39: LETTER 1, BEND 0", x, 1);
    }

    // 39: "-2: none fits"
    private static void listensOfNone() {
        CaveAdvice x = Due.cave("0110");
        x.route(0, 0);
        x.heard(0, 0, 1);
        DUE.is("39: none fits", x.listens(), -2);
        DUE.row("39: the ROW stays", x, 1, 0);
    }
}
