/** Boundary cases that promises 23 to 31 name, each sentence with a test of its own. */
public final class WaysEdgesTest {
    private static final Due DUE = new Due();
    private static final String ROW_OF_EIGHT = "0190;1290;2390;3490;4590;5690;6790";

    public static void main(String[] args) {
        wayToItself();
        longestWay();
        asQuickWays();
        wayNotJoined();
        wayNoneSuch();
        meetsItself();
        meetsOfEqualOnes();
        meetsNotJoined();
        meetsNoneSuch();
        heartOfEqualOnes();
        heartOfNone();
        ropesOfNone();
        ropesOfEqualOnes();
        neededOfNone();
        neededAlone();
        tourOfNone();
        tourItAside();
        tourLeastRow();
        tourNotJoined();
        tourOthers();
        longestTour();
        halvesOfNone();
        halvesCantBe();
        halvesOfHeaps();
        guidesOfNone();
        guidesTheLeast();
        mostOfNone();
        mostTheLeast();
        DUE.close();
    }

    // 23: no minutes
    private static void wayToItself() {
        CaveAdvice x = Due.cave("0110;0110");
        for (int c = 0; c < 8; c++) {
            x.rounds();
            DUE.is("23: to itself", x.way(c, c), 0);
            DUE.row("23: no PASSAGES", x);
        }
        DUE.is("23: without PASSAGES", new CaveAdvice().way(7, 7), 0);
    }

    private static void longestWay() {
        for (int by = 0; by < 8; by++) {
            int from = (by + 3) % 8;
            int to = (by + 5) % 8;
            CaveAdvice y = Due.cave("" + from + by + "20;" + to + by + "30");
            DUE.is("23: through " + by, y.way(from, to), 5);
            DUE.row("23: through " + by, y, 0, 1);
            DUE.is("7: through " + by, y.cavern(from, 2), 5);
        }
        CaveAdvice x = Due.cave(ROW_OF_EIGHT);
        DUE.is("23: from 0 to 7", x.way(0, 7), 63);
        DUE.row("23: from 0 to 7", x, 0, 1, 2, 3, 4, 5, 6);
        DUE.is("23: from 7 to 0", x.way(7, 0), 63);
        DUE.row("23: from 7 to 0", x, 6, 5, 4, 3, 2, 1, 0);
    }

    // 23: "of as quick ways the least row"
    private static void asQuickWays() {
        CaveAdvice x = Due.cave("1320;0220;0120;2320;0340;0340");
        DUE.is("23: four as quick", x.way(0, 3), 4);
        DUE.row("23: by 1 first is the least", x, 1, 3);
        DUE.is("23: from 3", x.way(3, 0), 4);
        DUE.row("23: from 3", x, 0, 2);
        x.falls(1);
        x.way(0, 3);
        DUE.row("23: without 1", x, 2, 0);
        x.falls(2);
        x.way(0, 3);
        DUE.row("23: without 1, 2", x, 4);
        x.falls(4);
        x.way(0, 3);
        DUE.row("23: the last one", x, 5);
        CaveAdvice y = Due.cave("0120;0110;0110");
        DUE.is("23: the quickest, though not the least", y.way(0, 1), 1);
        DUE.row("23: of two the first", y, 1);
    }

    // 23: "-2: they are not JOINED"
    private static void wayNotJoined() {
        CaveAdvice x = Due.cave("0110;2310");
        x.route(0, 0);
        DUE.is("23: two heaps", x.way(0, 2), -2);
        DUE.is("23: two heaps", x.way(3, 1), -2);
        DUE.is("23: one without PASSAGES", x.way(0, 7), -2);
        x.falls(0);
        DUE.is("23: not OPEN", x.way(0, 1), -2);
        DUE.row("23: the ROW stays", x, 1, 0);
        DUE.is("23: no PASSAGES", new CaveAdvice().way(0, 1), -2);
    }

    // 23: "NONE: none such."
    private static void wayNoneSuch() {
        CaveAdvice x = Due.cave("0710");
        x.route(0, 0);
        for (int c : Edges.outside(0, 7)) {
            DUE.is("23: from " + c, x.way(c, 0), -1);
            DUE.is("23: to " + c, x.way(0, c), -1);
            DUE.is("23: from and to " + c, x.way(c, c), -1);
        }
        DUE.row("23: the ROW stays", x, 1, 0);
        DUE.is("23: 7", x.way(7, 0), 1);
    }

    private static void meetsItself() {
        CaveAdvice x = Due.cave("0110");
        for (int c = 0; c < 8; c++) {
            DUE.is("24: with itself", x.meets(c, c), c);
            DUE.row("24: with itself", x, 0, 0);
        }
    }

    // 24: "of equal ones the first"
    private static void meetsOfEqualOnes() {
        CaveAdvice x = Due.cave("5710;6710;4510;4610;5330;6330");
        DUE.is("24: 4 and 7 are as early", x.meets(5, 6), 4);
        DUE.row("24: 4 and 7 are as early", x, 1, 1);
        x.falls(2);
        DUE.is("24: 7 alone", x.meets(6, 5), 7);
        DUE.row("24: 7 alone", x, 1, 1);
        CaveAdvice y = Due.cave("6750");
        DUE.is("24: the first of both", y.meets(7, 6), 6);
        DUE.row("24: minutes of one, then of the other", y, 5, 0);
        DUE.is("24: the first of both", y.meets(6, 7), 6);
        DUE.row("24: minutes of one, then of the other", y, 0, 5);
        CaveAdvice z = Due.cave("2320;3430;0720");
        DUE.is("24: the later one counts", z.meets(4, 2), 3);
        DUE.row("24: the later one counts", z, 3, 2);
        DUE.is("24: CAVERN 0 is not JOINED to both", z.meets(4, 3), 3);
    }

    // 24: "-2: they are not JOINED"
    private static void meetsNotJoined() {
        CaveAdvice x = Due.cave("0110;2310");
        x.route(0, 0);
        DUE.is("24: two heaps", x.meets(0, 2), -2);
        DUE.is("24: two heaps", x.meets(7, 0), -2);
        x.falls(1);
        DUE.is("24: not OPEN", x.meets(2, 3), -2);
        DUE.row("24: the ROW stays", x, 1, 0);
    }

    // 24: "NONE: none such."
    private static void meetsNoneSuch() {
        CaveAdvice x = Due.cave("0710");
        x.route(0, 0);
        for (int c : Edges.outside(0, 7)) {
            DUE.is("24: one " + c, x.meets(c, 0), -1);
            DUE.is("24: other " + c, x.meets(0, c), -1);
            DUE.is("24: both " + c, x.meets(c, c), -1);
        }
        DUE.row("24: the ROW stays", x, 1, 0);
        DUE.is("24: 7", x.meets(7, 0), 0);
    }

    // 25: "of equal ones the first"
    private static void heartOfEqualOnes() {
        CaveAdvice x = Due.cave("6710;4510;2310");
        DUE.is("25: of six equal ones the first", x.heart(), 2);
        DUE.row("25: of six equal ones the first", x, 1, 2);
        x.digs(2, 2, 0);
        DUE.is("25: of four", x.heart(), 4);
        DUE.row("25: of four", x, 1, 2);
        Due.text(x, "3190").passages();
        DUE.is("25: the most CAVERNS first, be they FAR", x.heart(), 3);
        DUE.row("25: the most CAVERNS first, be they FAR", x, 9, 3);
        CaveAdvice y = Due.cave(ROW_OF_EIGHT);
        DUE.is("25: the middle of eight", y.heart(), 3);
        DUE.row("25: the middle of eight", y, 36, 8);
        CaveAdvice z = Due.cave("6710");
        DUE.is("25: not one without PASSAGES", z.heart(), 6);
        CaveAdvice first = Due.cave("1020;0220");
        DUE.is("25: CAVERN 0", first.heart(), 0);
        DUE.row("25: CAVERN 0", first, 2, 3);
        CaveAdvice two = Due.cave("0110");
        DUE.is("25: CAVERN 0 of two", two.heart(), 0);
        CaveAdvice last = Due.cave("5720;7620");
        DUE.is("25: CAVERN 7", last.heart(), 7);
        DUE.row("25: CAVERN 7", last, 2, 3);
    }

    // 25: "-2: no PASSAGE is OPEN"
    private static void heartOfNone() {
        DUE.is("25: no PASSAGES", new CaveAdvice().heart(), -2);
        CaveAdvice x = Due.cave("0110;1210");
        x.route(0, 0);
        x.falls(0);
        DUE.is("25: one OPEN", x.heart(), 1);
        x.falls(1);
        DUE.is("25: none OPEN", x.heart(), -2);
        DUE.row("25: the ROW stays", x, 1, 2);
    }

    private static void ropesOfNone() {
        CaveAdvice x = Due.cave("0110");
        x.falls(0);
        DUE.is("26: none OPEN", x.ropes(), 0);
        DUE.row("26: none OPEN", x, 0, 0);
        DUE.is("26: no PASSAGES", new CaveAdvice().ropes(), 0);
    }

    // 26: "taken by DELAY, of equal ones by numbers, if they join what was not joined yet"
    private static void ropesOfEqualOnes() {
        CaveAdvice x = Due.cave("0190;0190;0190");
        DUE.is("26: the first of three", x.ropes(), 9);
        DUE.row("26: the first of three", x, 1, 1);
        x.falls(0);
        x.ropes();
        DUE.row("26: the first of two", x, 2, 1);
        x.digs(2, 8, 0);
        DUE.is("26: by DELAY", x.ropes(), 8);
        DUE.row("26: by DELAY", x, 4, 1);
        CaveAdvice round = Due.cave("0110;1210;2010;2390;0390");
        DUE.is("26: what is joined already is left out", round.ropes(), 11);
        DUE.row("26: what is joined already is left out", round, 1 + 2 + 8, 3);
        CaveAdvice all = Due.cave(ROW_OF_EIGHT);
        DUE.is("26: all eight", all.ropes(), 63);
        DUE.row("26: all eight", all, 127, 7);
    }

    private static void neededOfNone() {
        CaveAdvice x = Due.cave("0110");
        x.falls(0);
        DUE.is("27: none OPEN", x.needed(), 0);
        DUE.row("27: none OPEN", x, 0, 0, 0);
        CaveAdvice twins = Due.cave("0110;0110");
        DUE.is("27: none of two", twins.needed(), 0);
        DUE.row("27: none of two", twins, 0, 2, 1);
    }

    // 27: "without which (each alone) two CAVERNS that are JOINED would not be"
    private static void neededAlone() {
        CaveAdvice x = Due.cave(ROW_OF_EIGHT);
        DUE.is("27: all", x.needed(), 127);
        DUE.row("27: all", x, 7, 8, 1);
        x.falls(3);
        DUE.is("27: two heaps", x.needed(), 127 - 8);
        DUE.row("27: two heaps", x, 6, 8, 2);
        CaveAdvice four = Due.cave("0110;2310;4510;6710");
        DUE.is("27: four heaps", four.needed(), 15);
        DUE.row("27: four heaps", four, 4, 8, 4);
        CaveAdvice round = Due.cave("0110;1210;2010;2310");
        DUE.is("27: each alone, not two at once", round.needed(), 8);
        DUE.row("27: each alone, not two at once", round, 1, 4, 1);
    }

    private static void tourOfNone() {
        CaveAdvice x = Due.cave("0110");
        for (int c = 0; c < 8; c++) {
            x.rounds();
            DUE.is("28: none", x.tour(c, 0), 0);
            DUE.row("28: none", x);
            x.rounds();
            DUE.is("28: it alone", x.tour(c, 1 << c), 0);
            DUE.row("28: it alone", x);
        }
    }

    // 28: "these CAVERNS in the order in which they are gone to (it aside ...)"
    private static void tourItAside() {
        CaveAdvice x = Due.cave("0110;1210;2310;3010");
        for (int c = 0; c < 4; c++) {
            DUE.is("28: with it", x.tour(c, 15), 4);
            String with = Edges.rowOf(x);
            DUE.is("28: three", x.count(9), 3);
            DUE.is("28: without it", x.tour(c, 15 & ~(1 << c)), 4);
            DUE.holds("28: the same order", with.equals(Edges.rowOf(x)));
        }
    }

    // 28: "of as quick ones the least row"
    private static void tourLeastRow() {
        CaveAdvice ring = Due.cave("0110;1210;2310;3410;4510;5010");
        DUE.is("28: both ways round", ring.tour(0, 63), 6);
        DUE.row("28: the least row", ring, 1, 2, 3, 4, 5);
        ring.tour(3, 63);
        DUE.row("28: the least row from 3", ring, 2, 1, 0, 5, 4);
        CaveAdvice star = Due.cave("7010;7110;7210;7310");
        DUE.is("28: any order", star.tour(7, 15), 8);
        DUE.row("28: the least row", star, 0, 1, 2, 3);
        DUE.is("28: some of these", star.tour(3, 1 + 4), 6);
        DUE.row("28: some of these", star, 0, 2);
    }

    // 28: "-2: one is not JOINED to it"
    private static void tourNotJoined() {
        CaveAdvice x = Due.cave("0110;2310");
        x.route(0, 0);
        DUE.is("28: another heap", x.tour(0, 4), -2);
        DUE.is("28: one of two", x.tour(0, 2 + 8), -2);
        DUE.is("28: all", x.tour(0, 255), -2);
        DUE.is("28: one without PASSAGES", x.tour(0, 128), -2);
        DUE.is("28: from one without PASSAGES", x.tour(7, 1), -2);
        x.falls(0);
        DUE.is("28: not OPEN", x.tour(0, 2), -2);
        DUE.row("28: the ROW stays", x, 1, 0);
    }

    // 28: "NONE: others (bits above 255)."
    private static void tourOthers() {
        CaveAdvice x = Due.cave("0710");
        x.route(0, 0);
        for (int c : Edges.outside(0, 7)) {
            DUE.is("28: from " + c, x.tour(c, 0), -1);
        }
        for (int some : new int[] {256, 257, 511, 512, 65536, 1 << 30, Integer.MAX_VALUE, Integer.MIN_VALUE, -1, -256, -255}) {
            DUE.is("28: bits " + some, x.tour(0, some), -1);
        }
        DUE.row("28: the ROW stays", x, 1, 0);
        DUE.is("28: none that is JOINED, and bits above 255", x.tour(0, 258), -1);
        DUE.is("28: bit 7", x.tour(0, 128), 2);
        DUE.row("28: bit 7", x, 7);
    }

    private static void longestTour() {
        CaveAdvice x = Due.cave(ROW_OF_EIGHT);
        DUE.is("28: there and back", x.tour(0, 255), 126);
        DUE.row("28: the least row", x, 1, 2, 3, 4, 5, 6, 7);
        DUE.is("28: from the other end", x.tour(7, 255), 126);
        DUE.is("28: seven", x.count(9), 7);
    }

    private static void halvesOfNone() {
        CaveAdvice x = Due.cave("0110");
        x.falls(0);
        DUE.is("29: none OPEN", x.halves(), 1);
        DUE.row("29: none OPEN", x, 0);
    }

    // 29: "(bits; nothing if they can't be)"
    private static void halvesCantBe() {
        CaveAdvice x = Due.cave("0110;1210;2010;5610");
        x.rounds();
        DUE.is("29: three in a round", x.halves(), 0);
        DUE.row("29: nothing", x);
        x.falls(1);
        DUE.is("29: without one", x.halves(), 1);
        DUE.row("29: without one", x, 1 + 32);
        CaveAdvice five = Due.cave("7610;6510;5410;4310;3710;0110");
        DUE.is("29: five in a round", five.halves(), 0);
        DUE.row("29: nothing", five);
        CaveAdvice seven = Due.cave("0110;1210;2310;3410;4510;5610;6010");
        DUE.is("29: seven in a round", seven.halves(), 0);
        CaveAdvice eight = Due.cave("0110;1210;2310;3410;4510;5610;6710;7010");
        DUE.is("29: eight in a round", eight.halves(), 1);
        DUE.row("29: eight in a round", eight, 1 + 4 + 16 + 64);
    }

    // 29: "the part of the first CAVERN of each heap"
    private static void halvesOfHeaps() {
        CaveAdvice x = Due.cave("7610;5410;3210;1010");
        DUE.is("29: four heaps", x.halves(), 1);
        DUE.row("29: the first of each", x, 1 + 4 + 16 + 64);
        CaveAdvice y = Due.cave("7110;7210;7310;0610");
        DUE.is("29: a star and two", y.halves(), 1);
        DUE.row("29: with the first of each", y, 1 + 2 + 4 + 8);
        CaveAdvice z = Due.cave("0110;1210;2310;3410;4510;5610;6710");
        z.halves();
        DUE.row("29: every other of eight", z, 1 + 4 + 16 + 64);
        CaveAdvice back = Due.cave("0710;7610;6510;5410;4310;3210;2110");
        back.halves();
        DUE.row("29: every other of eight, told backwards", back, 1 + 4 + 16 + 64);
    }

    private static void guidesOfNone() {
        CaveAdvice x = Due.cave("0110");
        x.falls(0);
        DUE.is("30: none OPEN", x.guides(), 0);
        DUE.row("30: none OPEN", x, 0);
        DUE.is("30: no PASSAGES", new CaveAdvice().guides(), 0);
    }

    // 30: "bits: of as few the least"
    private static void guidesTheLeast() {
        CaveAdvice x = Due.cave("6710");
        DUE.is("30: either end", x.guides(), 1);
        DUE.row("30: the least", x, 64);
        CaveAdvice y = Due.cave("0710;7110");
        DUE.is("30: one of three", y.guides(), 1);
        DUE.row("30: not less bits by more CAVERNS", y, 128);
        CaveAdvice z = Due.cave("0110;1210;2310;3010");
        DUE.is("30: two of four", z.guides(), 2);
        DUE.row("30: 0, 2 and not 1, 3", z, 5);
        CaveAdvice four = Due.cave("0710;1610;2510;3410");
        DUE.is("30: four heaps", four.guides(), 4);
        DUE.row("30: four heaps", four, 15);
        CaveAdvice five = Due.cave("0110;0210;0310;0410;1210;1310;1410;2310;2410;3410");
        DUE.is("30: five, all with all", five.guides(), 4);
        DUE.row("30: five, all with all", five, 15);
    }

    private static void mostOfNone() {
        CaveAdvice x = Due.cave("0110");
        x.falls(0);
        DUE.is("31: none OPEN", x.most(), 0);
        DUE.row("31: none OPEN", x, 0);
    }

    // 31: "bits: of as many the least"
    private static void mostTheLeast() {
        CaveAdvice x = Due.cave("0110;0110;0110");
        DUE.is("31: one of three", x.most(), 1);
        DUE.row("31: the least", x, 1);
        CaveAdvice y = Due.cave("1210;0110;2310");
        DUE.is("31: two are more than one", y.most(), 2);
        DUE.row("31: not the least bits alone", y, 6);
        CaveAdvice between = Due.cave("0110;2310;1210");
        DUE.is("31: without the one between", between.most(), 2);
        DUE.row("31: without the one between", between, 3);
        CaveAdvice z = Due.cave("0110;2310;1210;0310");
        DUE.is("31: 0, 1 or 2, 3", z.most(), 2);
        DUE.row("31: the least", z, 3);
        z.falls(0);
        z.most();
        DUE.row("31: those that are OPEN", z, 12);
        CaveAdvice last = Due.cave("0110;0110;0110;0110;0110;0110;0110;0110;0110;4510;6710;2310");
        DUE.is("31: four", last.most(), 4);
        DUE.row("31: four, with the last one", last, 1 + (1 << 9) + (1 << 10) + (1 << 11));
        CaveAdvice four = Due.cave("0110;2310;4510;6710");
        DUE.is("31: four", four.most(), 4);
        DUE.row("31: four", four, 15);
    }
}
