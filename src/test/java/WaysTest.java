/** Promises 23 to 31: ways. */
public final class WaysTest {
    private static final Due DUE = new Due();

    public static void main(String[] args) {
        way();
        meets();
        heart();
        ropes();
        needed();
        tour();
        halves();
        guides();
        most();
        DUE.close();
    }

    private static void way() {
        CaveAdvice x = Due.cave("2330;0240;1330;0140;0370;4510");
        DUE.is("23: three as quick", x.way(0, 3), 7);
        DUE.row("23: the least row", x, 1, 0);
        DUE.is("23: back", x.way(3, 0), 7);
        DUE.row("23: back", x, 0, 1);
        x.falls(0);
        DUE.is("23: without 0", x.way(0, 3), 7);
        DUE.row("23: without 0", x, 3, 2);
        DUE.is("23: to itself", x.way(6, 6), 0);
        DUE.row("23: to itself", x);
        x.way(0, 3);
        DUE.is("23: not JOINED", x.way(0, 4), -2);
        DUE.is("23: no such", x.way(0, 8), -1);
        DUE.is("23: no such", x.way(-1, 0), -1);
        DUE.row("23: the ROW stays", x, 3, 2);
        CaveAdvice twins = Due.cave("0120;0110;0110");
        DUE.is("23: the quickest of three", twins.way(1, 0), 1);
        DUE.row("23: the quickest of three", twins, 1);
    }

    private static void meets() {
        CaveAdvice x = Due.cave("0120;1220;2320;5410");
        DUE.is("24: in the middle", x.meets(0, 2), 1);
        DUE.row("24: in the middle", x, 2, 2);
        DUE.is("24: of equal ones the first", x.meets(3, 0), 1);
        DUE.row("24: minutes of both", x, 4, 2);
        DUE.is("24: one alone", x.meets(6, 6), 6);
        DUE.row("24: one alone", x, 0, 0);
        DUE.is("24: the first one", x.meets(5, 4), 4);
        DUE.row("24: the first one", x, 1, 0);
        DUE.is("24: not JOINED", x.meets(0, 4), -2);
        DUE.is("24: no such", x.meets(8, 0), -1);
        DUE.is("24: no such", x.meets(0, -1), -1);
        DUE.row("24: the ROW stays", x, 1, 0);
    }

    private static void heart() {
        CaveAdvice x = Due.cave("0110;5630;6720");
        DUE.is("25: the greater heap", x.heart(), 6);
        DUE.row("25: the greater heap", x, 3, 3);
        x.falls(2);
        DUE.is("25: of like heaps the least FAR", x.heart(), 0);
        DUE.row("25: of like heaps the least FAR", x, 1, 2);
        x.digs(0, 4, 0);
        DUE.is("25: another one", x.heart(), 5);
        DUE.row("25: another one", x, 3, 2);
        x.falls(0);
        x.falls(1);
        DUE.is("25: none OPEN", x.heart(), -2);
        DUE.row("25: the ROW stays", x, 3, 2);
    }

    private static void ropes() {
        CaveAdvice x = Due.cave("0120;0120;1230;0230;0250;4590;4590");
        DUE.is("26: ropes", x.ropes(), 2 + 3 + 9);
        DUE.row("26: of equal ones by numbers", x, 1 + 4 + 32, 3);
        x.falls(0);
        x.falls(5);
        x.digs(4, 1, 0);
        DUE.is("26: by DELAY first", x.ropes(), 1 + 2 + 9);
        DUE.row("26: by DELAY first", x, 16 + 2 + 64, 3);
        CaveAdvice none = new CaveAdvice();
        DUE.is("26: none", none.ropes(), 0);
        DUE.row("26: none", none, 0, 0);
    }

    private static void needed() {
        CaveAdvice x = Due.cave("0110;1210;2010;2310;5610;5610");
        DUE.is("27: one", x.needed(), 8);
        DUE.row("27: one", x, 1, 6, 2);
        x.falls(0);
        x.falls(4);
        DUE.is("27: all", x.needed(), 2 + 4 + 8 + 32);
        DUE.row("27: all", x, 4, 6, 2);
        for (int q : new int[] {1, 2, 3, 5}) {
            x.falls(q);
        }
        DUE.is("27: none OPEN", x.needed(), 0);
        DUE.row("27: none OPEN", x, 0, 0, 0);
    }

    private static void tour() {
        CaveAdvice x = Due.cave("0110;1210;2310;3020;0490;6710");
        DUE.is("28: a round", x.tour(0, 14), 5);
        DUE.row("28: the least row", x, 1, 2, 3);
        DUE.is("28: it aside", x.tour(0, 15), 5);
        DUE.row("28: it aside", x, 1, 2, 3);
        DUE.is("28: there and back", x.tour(4, 4), 22);
        DUE.row("28: there and back", x, 2);
        DUE.is("28: none", x.tour(5, 0), 0);
        DUE.row("28: none", x);
        DUE.is("28: itself", x.tour(5, 32), 0);
        DUE.row("28: itself", x);
        DUE.is("28: from 2", x.tour(2, 16 + 2 + 8), 18 + 5);
        DUE.row("28: from 2", x, 1, 4, 3);
        x.tour(0, 14);
        DUE.is("28: not JOINED", x.tour(0, 64), -2);
        DUE.is("28: not JOINED", x.tour(0, 255), -2);
        DUE.is("28: bits above 255", x.tour(0, 256), -1);
        DUE.is("28: bits below 0", x.tour(0, -1), -1);
        DUE.is("28: no such", x.tour(8, 0), -1);
        DUE.row("28: the ROW stays", x, 1, 2, 3);
        CaveAdvice ring = Due.cave("0110;1210;2310;3410;4510;5610;6710;7010");
        DUE.is("28: eight", ring.tour(3, 255), 8);
        DUE.row("28: eight", ring, 2, 1, 0, 7, 6, 5, 4);
    }

    private static void halves() {
        CaveAdvice x = Due.cave("0110;1210;2310;3010;7510;6710");
        DUE.is("29: two halves", x.halves(), 1);
        DUE.row("29: the first of each heap", x, 1 + 4 + 32 + 64);
        Due.text(x, "0210").passages();
        DUE.is("29: three in a round", x.halves(), 0);
        DUE.row("29: three in a round", x);
        x.falls(6);
        x.falls(0);
        DUE.is("29: without it", x.halves(), 1);
        DUE.row("29: without it", x, 1 + 4 + 32 + 64);
        CaveAdvice none = new CaveAdvice();
        DUE.is("29: none", none.halves(), 1);
        DUE.row("29: none", none, 0);
    }

    private static void guides() {
        CaveAdvice x = Due.cave("0510;1510;2510;3410");
        DUE.is("30: two", x.guides(), 2);
        DUE.row("30: the least", x, 32 + 8);
        x.falls(3);
        DUE.is("30: one", x.guides(), 1);
        DUE.row("30: one", x, 32);
        for (int q = 0; q < 3; q++) {
            x.falls(q);
        }
        DUE.is("30: none", x.guides(), 0);
        DUE.row("30: none", x, 0);
        CaveAdvice four = Due.cave("0110;0210;0310;1210;1310;2310");
        DUE.is("30: all with all", four.guides(), 3);
        DUE.row("30: all with all", four, 7);
    }

    private static void most() {
        CaveAdvice x = Due.cave("1210;0110;2310;3410;0110");
        DUE.is("31: two", x.most(), 2);
        DUE.row("31: the least", x, 2 + 4);
        x.falls(1);
        DUE.is("31: without 1", x.most(), 2);
        DUE.row("31: without 1", x, 1 + 8);
        x.falls(0);
        DUE.is("31: without 0", x.most(), 2);
        DUE.row("31: without 0", x, 4 + 16);
        DUE.is("31: none", new CaveAdvice().most(), 0);
        CaveAdvice four = Due.cave("0110;2310;4510;6710");
        DUE.is("31: all", four.most(), 4);
        DUE.row("31: all", four, 15);
    }
}
