/** Promises 32 to 39: which passage it was, laws of change. */
public final class CluesTest {
    private static final Due DUE = new Due();

    public static void main(String[] args) {
        toldAndForgotten();
        fits();
        next();
        heardAndDenied();
        laws();
        listens();
        DUE.close();
    }

    private static void toldAndForgotten() {
        CaveAdvice x = new CaveAdvice();
        int[][] wrong = {{0, 0}, {0, 10}, {1, -1}, {1, 8}, {2, -1}, {2, 10}, {3, -1}, {3, 2}, {4, -1}, {4, 10}, {5, 1}, {-1, 1}};
        for (int[] w : wrong) {
            DUE.is("32: refused " + w[0] + " " + w[1], x.told(w[0], w[1]), -1);
        }
        int[][] right = {{0, 1}, {0, 9}, {1, 0}, {1, 7}, {2, 0}, {2, 9}, {3, 0}, {3, 1}, {4, 0}, {4, 9}, {4, 9}, {4, 9}};
        for (int i = 0; i < 12; i++) {
            DUE.is("32: told", x.told(right[i][0], right[i][1]), i + 1);
        }
        DUE.is("32: a thirteenth", x.told(0, 1), -1);
        DUE.is("32: twelve", x.count(6), 12);
        DUE.is("33: forgotten", x.forget(), 12);
        DUE.is("33: forgotten", x.count(6), 0);
        DUE.is("33: nothing", x.forget(), 0);
        DUE.is("32: told anew", x.told(0, 1), 1);
    }

    private static void fits() {
        int[][] told = {{0, 3}, {1, 1}, {2, 5}, {3, 0}, {3, 1}, {4, 2}};
        int[] want = {2 + 4, 1 + 2, 1 + 4, 4, 1 + 2, 2 + 4};
        for (int i = 0; i < told.length; i++) {
            CaveAdvice x = clueCave();
            x.told(told[i][0], told[i][1]);
            DUE.is("34: " + told[i][0], x.fits(), want[i]);
            DUE.row("34: " + told[i][0], x, Integer.bitCount(want[i]));
        }
        CaveAdvice x = clueCave();
        DUE.is("34: nothing told", x.fits(), 7);
        DUE.row("34: nothing told", x, 3);
        x.told(0, 3);
        x.told(1, 1);
        DUE.is("34: both", x.fits(), 2);
        DUE.row("34: both", x, 1);
        x.told(2, 0);
        DUE.is("34: none", x.fits(), 0);
        DUE.row("34: none", x, 0);
        x.forget();
        DUE.is("33: all again", x.fits(), 7);
    }

    /** WEAR 3, 2, 1; the last one is not OPEN. */
    private static CaveAdvice clueCave() {
        CaveAdvice x = Due.cave("0125;1234;2395");
        x.sheet(2, 3, 3, -1);
        x.falls(2);
        return x;
    }

    private static void next() {
        CaveAdvice x = Due.cave("0110;0110;2310;3410");
        DUE.is("35: two and two", x.next(), 0);
        DUE.row("35: two and two", x, 2);
        x.told(1, 3);
        DUE.is("35: one and one", x.next(), 2);
        DUE.row("35: one and one", x, 1);
        x.falls(2);
        DUE.is("35: OPEN or not", x.next(), 2);
        x.told(2, 9);
        DUE.is("35: none fits", x.next(), -2);
        DUE.row("35: the ROW stays", x, 1);
        DUE.is("35: no PASSAGES", new CaveAdvice().next(), -2);
    }

    private static void heardAndDenied() {
        CaveAdvice x = new CaveAdvice();
        int[][] wrong = {{-1, 0, 0}, {8, 0, 0}, {0, -1, 0}, {0, 10, 0}, {0, 0, -1}, {0, 0, 8}};
        for (int[] w : wrong) {
            DUE.is("36: refused", x.heard(w[0], w[1], w[2]), -1);
        }
        for (int i = 1; i <= 10; i++) {
            DUE.is("36: heard", x.heard(7, 9, 7), i);
        }
        DUE.is("36: an eleventh", x.heard(0, 0, 0), -1);
        DUE.is("36: ten", x.count(7), 10);
        DUE.is("37: denied", x.denied(), 10);
        DUE.is("37: denied", x.count(7), 0);
        DUE.is("37: nothing", x.denied(), 0);
        DUE.is("36: heard anew", x.heard(0, 0, 0), 1);
    }

    private static void laws() {
        CaveAdvice x = new CaveAdvice();
        DUE.is("38: all", x.laws(), 64);
        DUE.row("38: all", x, 0, 0);
        x.heard(2, 0, 6);
        DUE.is("38: a 3 or 7", x.laws(), 16);
        DUE.row("38: a 3 or 7", x, 3, 0);
        x.heard(1, 9, 0);
        DUE.is("38: a + b is 0", x.laws(), 2);
        DUE.row("38: a + b is 0", x, 3, 5);
        x.heard(0, 0, 1);
        DUE.is("38: none", x.laws(), 0);
        DUE.row("38: none", x);
        x.denied();
        DUE.is("37: all again", x.laws(), 64);
    }

    private static void listens() {
        CaveAdvice x = new CaveAdvice();
        DUE.is("39: nothing heard", x.listens(), 1);
        DUE.row("39: nothing heard", x, 8);
        x.heard(0, 1, 5);
        DUE.is("39: b is known", x.listens(), 10);
        DUE.row("39: b is known", x, 1);
        x.denied();
        x.heard(0, 4, 4);
        x.heard(4, 0, 0);
        // a even, b odd: sixteen laws; LETTER 1 by BEND 1 tells a + b: the rest four each.
        DUE.is("39: a even, b odd", x.listens(), 1);
        DUE.row("39: a even, b odd", x, 4);
        x.heard(0, 0, 1);
        DUE.is("39: none fits", x.listens(), -2);
        DUE.row("39: the ROW stays", x, 4);
    }
}
