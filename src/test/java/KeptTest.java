/** Promises 45 to 48: what is kept, counts, the row. */
public final class KeptTest {
    private static final Due DUE = new Due();

    public static void main(String[] args) {
        keepAndAgain();
        passagesSince();
        count();
        row();
        DUE.close();
    }

    private static void keepAndAgain() {
        CaveAdvice x = Due.cave("0111;1222");
        DUE.holds("45: 3", !x.keep(3));
        DUE.holds("45: -1", !x.keep(-1));
        DUE.holds("46: nothing kept", !x.again(0));
        DUE.holds("46: 3", !x.again(3));
        DUE.holds("46: -1", !x.again(-1));
        Due.text(x, "a").calls(0, 0);
        x.hours(0);
        x.digs(1, 7, 7);
        x.falls(0);
        DUE.holds("45: 0", x.keep(0));
        x.hours(5);
        x.falls(0);
        x.digs(1, 1, 1);
        Due.text(x, "a").calls(0, 0);
        x.heard(1, 1, 1);
        DUE.holds("45: 2", x.keep(2));
        DUE.holds("46: 1", !x.again(1));
        DUE.is("46: refused, as it was", x.count(8), 8);
        DUE.holds("46: 0", x.again(0));
        DUE.is("46: none can be undone", x.count(8), 0);
        int[] first = {2, 1, 0, 1, 2, 8, 0, 1};
        for (int what = 0; what < first.length; what++) {
            DUE.is("46: as under 0: count(" + what + ")", x.count(what), first[what]);
        }
        DUE.is("46: BEND", x.passage(1, 3), 7);
        DUE.is("46: not OPEN", x.passage(0, 5), 0);
        DUE.holds("46: 2", x.again(2));
        int[] second = {2, 2, 5, 2, 2, 2, 0, 1};
        for (int what = 0; what < second.length; what++) {
            DUE.is("46: as under 2: count(" + what + ")", x.count(what), second[what]);
        }
        x.hours(1);
        DUE.holds("46: 0 once more", x.again(0));
        DUE.is("46: it was not changed", x.count(2), 0);
        DUE.holds("45: 0 anew", x.keep(0));
    }

    private static void passagesSince() {
        CaveAdvice x = Due.cave("0111");
        x.hours(3);
        x.keep(0);
        x.keep(1);
        Due.text(x, "").passages();
        Due.text(x, "x").passages();
        DUE.holds("46: no PASSAGES came", x.again(0));
        Due.text(x, "1222").passages();
        DUE.holds("46: PASSAGES came since", !x.again(0));
        DUE.holds("46: PASSAGES came since", !x.again(1));
        x.keep(1);
        DUE.holds("46: kept since", x.again(1));
        DUE.holds("46: not kept since", !x.again(0));
    }

    private static void count() {
        CaveAdvice x = Due.cave("0131;1242;2353");
        x.falls(1);
        x.hours(8);
        Due.text(x, "a").calls(0, 0);
        x.told(0, 1);
        x.told(0, 1);
        x.heard(1, 1, 1);
        x.sheet(2, 3, 2, 1);
        x.needed();
        x.sign(0);
        int[] want = {3, 2, 8, 1, 9, 12, 2, 1, 3, 3, 4};
        for (int what = 0; what < want.length; what++) {
            DUE.is("47: count(" + what + ")", x.count(what), want[what]);
        }
        DUE.is("47: 11", x.count(11), -100);
        DUE.is("47: -1", x.count(-1), -100);
        DUE.is("47: the least int", x.count(Integer.MIN_VALUE), -100);
    }

    private static void row() {
        CaveAdvice x = Due.cave("0131;1242;2053");
        DUE.row("48: none told yet", x);
        x.route(0, 0);
        DUE.row("48: told", x, 12, 0, 1, 2);
        x.hours(1);
        x.count(0);
        x.game(5, 5);
        x.forget();
        Due.withRule(x, "v");
        DUE.row("48: by others it stays", x, 12, 0, 1, 2);
        x.halves();
        DUE.row("48: a shorter one", x);
        DUE.isThrown("48: 0 of none", () -> x.row(0));
        DUE.isThrown("48: the greatest int", () -> x.row(Integer.MAX_VALUE));
    }
}
