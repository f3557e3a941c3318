/** Boundary cases that promises 45 to 48 name, each sentence with a test of its own. */
public final class KeptEdgesTest {
    private static final Due DUE = new Due();

    public static void main(String[] args) {
        keepInRange();
        keepOthers();
        keepAnew();
        whatUndoBringsBack();
        againNothingKept();
        againPassagesCameSince();
        againNoPassagesCame();
        againAgain();
        counts();
        anotherCount();
        rowOfNone();
        rowsOfEachLength();
        rowsThatGrowAndShrink();
        rowStays();
        DUE.close();
    }

    // 45: "kept under a number 0 .. 2: true"
    private static void keepInRange() {
        for (int i = 0; i <= 2; i++) {
            CaveAdvice x = Due.cave("0110");
            x.hours(5);
            DUE.holds("45: " + i, x.keep(i));
            x.hours(5);
            for (int other = 0; other <= 2; other++) {
                DUE.holds("46: under " + i + " alone", other == i || !x.again(other));
            }
            DUE.holds("46: " + i, x.again(i));
            DUE.is("46: as it was kept", x.count(2), 5);
        }
        CaveAdvice x = new CaveAdvice();
        for (int i = 0; i <= 2; i++) {
            x.hours(1);
            DUE.holds("45: without PASSAGES", x.keep(i));
        }
        for (int i = 0; i <= 2; i++) {
            DUE.holds("46: each by itself", x.again(i));
            DUE.is("46: each by itself", x.count(2), i + 1);
        }
    }

    // 45: "Refused: others."
    private static void keepOthers() {
        CaveAdvice x = Edges.worn();
        for (int i : Edges.outside(0, 2)) {
            DUE.holds("45: " + i, !x.keep(i));
        }
        DUE.holds("45: nothing changes", Edges.lookThrough(x).equals(Edges.lookThrough(Edges.worn())));
    }

    private static void keepAnew() {
        CaveAdvice x = Due.cave("0110");
        x.keep(1);
        x.hours(4);
        x.keep(1);
        x.hours(4);
        DUE.holds("45: kept anew", x.again(1));
        DUE.is("45: the latest", x.count(2), 4);
        DUE.is("45: nothing to undo", x.count(8), 0);
    }

    // 45: "What undo() brings back": DELAY, BEND, WEAR, OPEN, HOUR, CALLED, and no more
    private static void whatUndoBringsBack() {
        CaveAdvice x = Edges.worn();
        x.keep(1);
        String before = Edges.lookAtCave(x);
        Due.text(x, "n9s00abx1m211m012x0x3").season();
        DUE.holds("46: changed since", !before.equals(Edges.lookAtCave(x)));
        x.sheet(2, 4, 1, 1);
        DUE.holds("46: 1", x.again(1));
        DUE.holds("46: all as it was kept", before.equals(Edges.lookAtCave(x)));
        x.told(1, 1);
        x.heard(1, 1, 1);
        Due.withRule(x, "5");
        Due.text(x, "aaa").hears(0, 0);
        x.sign(0);
        DUE.holds("46: 1 again", x.again(1));
        DUE.is("46: what was told stays", x.count(6), 3);
        DUE.is("46: what was heard stays", x.count(7), 2);
        DUE.row("46: the ROW stays", x, 5, 5, 5);
        DUE.is("46: THE TEXT stays", x.count(10), 4);
        Due.text(x, "ab").hears(0, 0);
        DUE.row("46: THE RULE stays", x, 5, 5);
    }

    // 46: "Refused: nothing kept"
    private static void againNothingKept() {
        CaveAdvice x = Edges.worn();
        DUE.holds("46: nothing kept under 1", !x.again(1));
        for (int i : Edges.outside(0, 2)) {
            DUE.holds("46: " + i, !x.again(i));
        }
        DUE.holds("46: nothing changes", Edges.lookThrough(x).equals(Edges.lookThrough(Edges.worn())));
        for (int i = 0; i <= 2; i++) {
            DUE.holds("46: nothing kept in a new one", !new CaveAdvice().again(i));
        }
    }

    // 46: "Refused: ... PASSAGES came since."
    private static void againPassagesCameSince() {
        CaveAdvice x = Due.cave("0110");
        for (int i = 0; i <= 2; i++) {
            x.keep(i);
        }
        x.hours(3);
        Due.text(x, "1210").passages();
        x.hours(4);
        for (int i = 0; i <= 2; i++) {
            DUE.holds("46: PASSAGES came since", !x.again(i));
        }
        DUE.is("46: refused, HOUR stays", x.count(2), 7);
        DUE.is("46: refused, it can be undone", x.count(8), 1);
        DUE.holds("45: kept since", x.keep(1));
        x.hours(1);
        DUE.holds("46: nothing kept since", !x.again(0));
        DUE.holds("46: kept since", x.again(1));
        DUE.is("46: kept since", x.count(2), 7);
        CaveAdvice none = new CaveAdvice();
        none.keep(0);
        Due.text(none, "0110").passages();
        DUE.holds("46: kept without PASSAGES", !none.again(0));
    }

    // 46: passages() that is refused or empty brings none
    private static void againNoPassagesCame() {
        CaveAdvice x = Due.cave("0110");
        x.keep(0);
        x.keep(2);
        x.hours(3);
        DUE.is("4: refused", Due.text(x, "1210;x").passages(), -6);
        DUE.holds("46: a refused one", x.again(0));
        x.hours(3);
        DUE.is("4: empty", Due.text(x, "").passages(), 0);
        DUE.holds("46: an empty one", x.again(2));
        DUE.is("46: as it was kept", x.count(2), 0);
    }

    private static void againAgain() {
        CaveAdvice x = Due.cave("0110");
        x.keep(0);
        for (int i = 0; i < 5; i++) {
            x.hours(7);
            x.falls(0);
            Due.text(x, "a").calls(0, 0);
            DUE.holds("46: it is kept still", x.again(0));
            DUE.is("46: HOUR", x.count(2), 0);
            DUE.is("46: OPEN", x.count(1), 1);
            DUE.is("46: what can be undone", x.count(8), 0);
        }
    }

    // 47: each what at its least and its most
    private static void counts() {
        CaveAdvice x = new CaveAdvice();
        for (int what = 0; what <= 10; what++) {
            DUE.is("47: at first, what " + what, x.count(what), 0);
        }
        Due.text(x, "0198;0198;0198;0198;0198;0198;0198;0198;0198;0198;0198;0198").passages();
        x.sheet(2, 12, 9, 0);
        for (int i = 0; i < 16; i++) {
            x.hours(0);
            x.told(0, 1);
            x.heard(0, 0, 0);
        }
        Due.text(x, "a".repeat(80)).keeps(0, 0);
        int[] most = {12, 12, 0, 0, 108, 108, 12, 10, 15, 6, 80};
        for (int what = 0; what <= 10; what++) {
            DUE.is("47: at most, what " + what, x.count(what), most[what]);
        }
        x.falls(11);
        DUE.is("47: how many are OPEN", x.count(1), 11);
        DUE.is("47: WEAR of all, OPEN or not", x.count(4), 108);
        DUE.is("47: DELAYS of all, OPEN or not", x.count(5), 108);
    }

    // 47: "-100 for another what"
    private static void anotherCount() {
        CaveAdvice x = Edges.worn();
        for (int what : Edges.outside(0, 10)) {
            DUE.is("47: what " + what, x.count(what), -100);
        }
        DUE.is("47: what 10", x.count(10), 3);
    }

    // 48: "NoSuchElementException: none such."
    private static void rowOfNone() {
        CaveAdvice x = new CaveAdvice();
        for (int i : Edges.outside(0, -1)) {
            DUE.isThrown("48: number " + i + " of none", () -> x.row(i));
        }
        x.halves();
        for (int i : Edges.outside(0, 0)) {
            DUE.isThrown("48: number " + i + " of one", () -> x.row(i));
        }
        DUE.is("48: number 0 of one", x.row(0), 0);
    }

    private static void rowsOfEachLength() {
        CaveAdvice x = Due.cave("0111;1211;2111;1211;2111;1211;2111;1211;2111;1211;2111;1211");
        for (int q = 11; q >= 0; q--) {
            x.route(0, 0);
            DUE.is("48: numbers of the ROW", x.count(9), q + 2);
            for (int i = 0; i <= q + 1; i++) {
                DUE.is("48: number " + i, x.row(i), i == 0 ? q + 1 : i - 1);
            }
            for (int i : new int[] {-1, q + 2, q + 3, 13, 16, 17}) {
                DUE.isThrown("48: number " + i + " of " + (q + 2), () -> x.row(i));
            }
            x.falls(q);
        }
    }

    private static void rowsThatGrowAndShrink() {
        CaveAdvice x = Due.cave("0110");
        Edges.Asked[] calls = {y -> Due.text(y, "ab").calls(0, 0), y -> Due.text(y, "").season(), y -> y.route(0, 0),
            y -> Due.text(y, "ab").hears(0, 0), y -> Due.text(y, "a").asks(0, 0), y -> Due.text(y, "a;a").becomes(),
            y -> y.apart(0, 0, 1), y -> y.longest(0), y -> y.rounds(), y -> y.way(0, 1), y -> y.way(3, 3), y -> y.meets(0, 1),
            y -> y.heart(), y -> y.ropes(), y -> y.needed(), y -> y.tour(0, 2), y -> y.halves(), y -> y.guides(), y -> y.most(),
            y -> y.fits(), y -> y.next(), y -> y.laws(), y -> y.listens(), y -> y.hints(0, 0, 0, 0, 5), y -> Due.text(y, "v").law(),
            y -> y.rests(0), y -> y.years(1, 1), y -> y.keeps(0, 0)};
        int[] many = {3, 2, 2, 2, 1, 2, 1, 2, 2, 1, 0, 2, 2, 2, 3, 1, 1, 1, 1, 1, 1, 2, 1, 2, 2, 2, 2, 6};
        for (int i = 0; i < calls.length; i++) {
            x.keeps(0, 0);
            DUE.holds("48: call " + i + " is answered", calls[i].answer(x) >= 0);
            DUE.is("48: numbers told last by call " + i, x.count(9), many[i]);
            final int behind = many[i];
            DUE.isThrown("48: none of those told before", () -> x.row(behind));
        }
    }

    // Terms: "ROW: numbers told last by a call that says so."
    private static void rowStays() {
        Edges.Asked[] others = {x -> x.sign(0x61616161), x -> x.end(0) ? 1 : 0, x -> Due.text(x, "4511").passages(),
            x -> Due.text(x, "v").rule(), x -> x.passage(0, 0), x -> x.cavern(0, 2), x -> x.sheet(2, 4, 1, 1), x -> x.hours(1),
            x -> x.falls(0), x -> x.digs(0, 9, 9), x -> x.undo(), x -> x.told(0, 1), x -> x.forget(), x -> x.heard(0, 0, 0),
            x -> x.denied(), x -> x.game(9, 3), x -> x.keep(0) ? 1 : 0, x -> x.again(0) ? 1 : 0, x -> x.count(9)};
        for (int i = 0; i < others.length; i++) {
            CaveAdvice x = Edges.worn();
            x.route(0, 0);
            String row = Edges.rowOf(x);
            DUE.holds("call " + i + " is answered", others[i].answer(x) >= 0);
            DUE.holds("call " + i + " tells no ROW", row.equals(Edges.rowOf(x)));
        }
    }
}
