/** Promises 1 to 8: a new object, texts, passages, the rule, sheets. */
public final class PassagesTest {
    private static final Due DUE = new Due();
    private static final String TWELVE =
        "0110;0120;0130;0140;0150;0160;0170;0180;0190;1211;1212;1213";

    public static void main(String[] args) {
        newObject();
        sign();
        end();
        passages();
        passagesAtFault();
        passagesWithoutRoom();
        ruleAtFault();
        ruleBounds();
        ruleValues();
        passage();
        cavern();
        sheet();
        DUE.close();
    }

    private static void newObject() {
        CaveAdvice x = new CaveAdvice();
        for (int what = 0; what <= 10; what++) {
            DUE.is("1: count(" + what + ") of a new object", x.count(what), 0);
        }
        DUE.row("1: a new object", x);
        DUE.is("1: the constant", CaveAdvice.NONE, -1);
        DUE.is("1: nothing to undo", x.undo(), -1);
    }

    private static void sign() {
        CaveAdvice x = new CaveAdvice();
        for (int i = 1; i <= 20; i++) {
            DUE.is("2: sign", x.sign(-1), 4 * i);
        }
        DUE.is("2: an 81st sign", x.sign(0), -1);
        DUE.is("2: none came", x.count(10), 80);
        x.end(77);
        DUE.is("2: from 77 to 81", x.sign(0), -1);
        x.end(76);
        DUE.is("2: from 76 to 80", x.sign(0), 80);
        x.end(0);
        // The highest byte first: "01" and a delay and a bend.
        x.sign(0x30313758);
        x.end(3);
        x.sign(0x34000000);
        x.end(4);
        DUE.is("2: order of bytes", x.passages(), 1);
        DUE.is("2: order of bytes, DELAY", x.passage(0, 2), 7);
        DUE.is("2: order of bytes, BEND", x.passage(0, 3), 4);
    }

    private static void end() {
        CaveAdvice x = new CaveAdvice();
        DUE.holds("3: 0 of an empty text", x.end(0));
        DUE.holds("3: 1 of an empty text", !x.end(1));
        x.sign(0);
        DUE.holds("3: below 0", !x.end(-1));
        DUE.holds("3: too many", !x.end(5));
        DUE.is("3: refused, as it was", x.count(10), 4);
        DUE.holds("3: all of it", x.end(4));
        DUE.holds("3: three", x.end(3));
        DUE.is("3: three are left", x.count(10), 3);
    }

    private static void passages() {
        CaveAdvice x = new CaveAdvice();
        DUE.is("4: an empty text", x.passages(), 0);
        DUE.is("4: two lines", Due.text(x, "0710;7029").passages(), 2);
        DUE.is("4: it empties the text", x.count(10), 0);
        DUE.is("4: one more", Due.text(x, "3495").passages(), 1);
        DUE.is("4: three in all", x.count(0), 3);
        DUE.is("4: all open", x.count(1), 3);
        DUE.is("4: ONE", x.passage(1, 0), 7);
        DUE.is("4: OTHER", x.passage(1, 1), 0);
        DUE.is("4: DELAY", x.passage(2, 2), 9);
        DUE.is("4: BEND", x.passage(2, 3), 5);
        x.sheet(2, 12, 4, 0);
        x.falls(0);
        x.hours(0);
        Due.text(x, "1210").passages();
        DUE.is("4: WEAR of a new one", x.passage(3, 4), 0);
        DUE.is("4: WEAR of an old one", x.passage(2, 4), 4);
        DUE.is("4: an old one stays fallen in", x.passage(0, 5), 0);
        DUE.is("4: nothing can be undone", x.count(8), 0);
        x.hours(0);
        DUE.is("4: an empty text", x.passages(), 0);
        DUE.is("4: an empty one forgets nothing", x.count(8), 1);
        DUE.is("4: a refused one", Due.text(x, "1").passages(), -2);
        DUE.is("4: a refused one forgets nothing", x.count(8), 1);
        DUE.is("4: twelve at once", Due.text(new CaveAdvice(), TWELVE).passages(), 12);
    }

    private static void passagesAtFault() {
        String[] texts = {"8", "x", "0", "00", "08", "01", "010", "011", "01:", "011x", "0110x", "0110;", "0110;8",
            "0110;1", "0110;11", "0110;;", ";", "0110;12", "0110;120", "0110;1210 ", "/110", "0/10", "011/", "0119:"};
        int[] faults = {0, 0, 1, 1, 1, 2, 2, 3, 2, 3, 4, 5, 5, 6, 6, 5, 0, 7, 7, 9, 0, 1, 3, 4};
        for (int i = 0; i < texts.length; i++) {
            CaveAdvice x = new CaveAdvice();
            DUE.is("4: " + texts[i], Due.text(x, texts[i]).passages(), -1 - faults[i]);
            DUE.is("4: nothing of it comes: " + texts[i], x.count(0), 0);
            DUE.is("4: the text is emptied: " + texts[i], x.count(10), 0);
        }
    }

    private static void passagesWithoutRoom() {
        DUE.is("4: more than 59", Due.text(new CaveAdvice(), TWELVE + ";").passages(), -60);
        DUE.is("4: a wrong sign behind 59", Due.text(new CaveAdvice(), TWELVE + "x0110").passages(), -60);
        DUE.is("4: a wrong sign ahead of it", Due.text(new CaveAdvice(), "x" + TWELVE + ";").passages(), -1);
        CaveAdvice x = Due.cave(TWELVE.substring(0, 54));
        DUE.is("4: eleven", x.count(0), 11);
        DUE.is("4: two for one", Due.text(x, "0110;0110").passages(), -6);
        DUE.is("4: a wrong line without room", Due.text(x, "0110;x").passages(), -6);
        DUE.is("4: one ends too early", Due.text(x, "0110;").passages(), -6);
        DUE.is("4: the first fault counts", Due.text(x, "0x10;0110").passages(), -2);
        DUE.is("4: still eleven", x.count(0), 11);
        DUE.is("4: the last one", Due.text(x, "0110").passages(), 1);
        DUE.is("4: no room at all", Due.text(x, "0110").passages(), -1);
        DUE.is("4: no room, nothing told", Due.text(x, "").passages(), 0);
    }

    private static void ruleAtFault() {
        String[] texts = {"z", "v+", "v v", "+v", "*", "v*/b", "1234", "12 ", "(v", "(v))", ")", "()", "v<b<w", "v<b+1=w",
            "(v<b", "-", "v-", "v(", "12v", "vv", "(v)(b)", "(v)2", "(((((v", "v<", "<v", "v*(b<w>d)", "a", "V", "v=b=",
            "000v", "(v<b)<w<d"};
        int[] faults = {0, 2, 1, 0, 0, 2, 3, 2, 2, 3, 0, 1, 3, 5, 4, 1, 2, 1, 2, 1, 3, 3, 4, 2, 0, 6, 0, 0, 3, 3, 7};
        for (int i = 0; i < texts.length; i++) {
            CaveAdvice x = Due.withRule(Due.cave("0111"), "v+3");
            DUE.is("5: " + texts[i], Due.text(x, texts[i]).rule(), -1 - faults[i]);
            DUE.is("5: the text is emptied: " + texts[i], x.count(10), 0);
            Due.text(x, "a").hears(0, 0);
            DUE.row("5: the rule stays: " + texts[i], x, 3);
            DUE.is("42: " + texts[i], Due.text(x, texts[i]).law(), -10000 - faults[i]);
        }
    }

    private static void ruleBounds() {
        String forty = "v" + "+v".repeat(19) + "*";
        DUE.is("5: forty signs that end too early", Due.text(new CaveAdvice(), forty).rule(), -41);
        DUE.is("5: more than forty", Due.text(new CaveAdvice(), forty + "v").rule(), -41);
        DUE.is("5: more than forty, a fault behind", Due.text(new CaveAdvice(), forty + ")").rule(), -41);
        DUE.is("5: a fault ahead", Due.text(new CaveAdvice(), ")" + forty).rule(), -1);
        DUE.is("42: more than forty", Due.text(new CaveAdvice(), forty + "v").law(), -10040);
        DUE.is("5: forty", Due.text(new CaveAdvice(), "-" + forty.substring(0, 39)).rule(), 0);
        DUE.is("5: many - ahead", Due.text(new CaveAdvice(), "-".repeat(39) + "v").rule(), 0);
        DUE.is("5: four in one another", Due.text(new CaveAdvice(), "((((v))))+((((b))))").rule(), 0);
        DUE.is("5: an empty one", new CaveAdvice().rule(), 0);
    }

    /** Each rule with what a letter d (3) becomes at place 1, from OTHER to ONE. */
    private static void ruleValues() {
        String[] rules = {"", "v", "b", "w", "d", "p", "n", "e", "v+b", "v-b", "b-v-w", "v*b", "b/v", "-b/v", "v/0", "v/(w-w)",
            "v+b*w", "(v+b)*w", "-v", "--v", "-v*b", "v--b", "b/w/2", "b*2/w", "v<b", "b<v", "v=3", "v>2+2", "(v<b)=(w>d)",
            "999", "007", "999*999*999*999", "-9", "v+w<b", "1-(v<b)*3", "2*-v", "b-w+1"};
        // v 3, b 7, w 4, d 5, p 1, n 9 % 7 = 2, e 1
        int[] becomes = {3 + 7 - 1, 3, 7, 4, 5, 1, 2, 1, 10, -4, 0, 21, 2, -2, 0, 0,
            31, 40, -3, 3, -21, 10, 0, 3, 1, 0, 1, 0, 0,
            999, 7, 999 * 999 * 999 * 999, -9, 0, -2, -6, 4};
        for (int i = 0; i < rules.length; i++) {
            CaveAdvice x = Due.cave("0157");
            x.hours(9);
            x.sheet(2, 1, 4, 0);
            DUE.is("5: " + rules[i], Due.text(x, rules[i]).rule(), 0);
            DUE.is("5: the text is emptied", x.count(10), 0);
            Due.text(x, "ad").hears(1, 0);
            DUE.is("5: by the rule " + rules[i], x.row(1), Math.floorMod(becomes[i], 8));
        }
        CaveAdvice x = Due.withRule(Due.cave("0157"), "e+p");
        Due.text(x, "hhh").hears(0, 0);
        DUE.row("5: from ONE to OTHER, by places", x, 0, 1, 2);
        Due.withRule(x, "");
        Due.text(x, "a").hears(0, 0);
        DUE.row("5: no rule again", x, 7);
    }

    private static void passage() {
        CaveAdvice x = Due.cave("3795");
        int[] want = {3, 7, 9, 5, 0, 1};
        for (int what = 0; what < 6; what++) {
            DUE.is("6: passage(0, " + what + ")", x.passage(0, what), want[what]);
        }
        Due.text(x, "a").calls(3, 0);
        DUE.is("6: WEAR", x.passage(0, 4), 1);
        x.falls(0);
        DUE.is("6: not OPEN", x.passage(0, 5), 0);
        DUE.isThrown("6: no such PASSAGE", () -> x.passage(1, 0));
        DUE.isThrown("6: PASSAGE -1", () -> x.passage(-1, 0));
        DUE.isThrown("6: what 6", () -> x.passage(0, 6));
        DUE.isThrown("6: what -1", () -> x.passage(0, -1));
    }

    private static void cavern() {
        CaveAdvice x = Due.cave("0140;1220;0270;4510");
        DUE.is("7: PASSAGES of 0", x.cavern(0, 0), 5);
        DUE.is("7: PASSAGES of 3", x.cavern(3, 0), 0);
        DUE.is("7: JOINED to 0", x.cavern(0, 1), 7);
        DUE.is("7: JOINED to 3", x.cavern(3, 1), 8);
        DUE.is("7: JOINED to 5", x.cavern(5, 1), 48);
        DUE.is("7: FAR from 0", x.cavern(0, 2), 6);
        DUE.is("7: FAR from 1", x.cavern(1, 2), 4);
        DUE.is("7: FAR from 3", x.cavern(3, 2), 0);
        x.falls(1);
        DUE.is("7: PASSAGES of 1", x.cavern(1, 0), 1);
        DUE.is("7: FAR without 1", x.cavern(1, 2), 11);
        x.falls(0);
        DUE.is("7: JOINED without 0", x.cavern(0, 1), 5);
        DUE.isThrown("7: CAVERN 8", () -> x.cavern(8, 0));
        DUE.isThrown("7: CAVERN -1", () -> x.cavern(-1, 1));
        DUE.isThrown("7: what 3", () -> x.cavern(0, 3));
        DUE.isThrown("7: what -1", () -> x.cavern(0, -1));
    }

    private static void sheet() {
        CaveAdvice x = Due.cave("0110;0110;0110");
        DUE.is("8: ints", x.sheet(2, 3, 8, 1), 8 + 9 + 9);
        DUE.is("8: ints below 0", x.sheet(2, 3, 1, -1), 1);
        DUE.is("8: those behind it", x.sheet(2, 2, 5, 0), 10);
        DUE.is("8: the last one", x.passage(2, 4), 0);
        DUE.is("8: more entries than PASSAGES", x.sheet(2, 12, 1, 1), 6);
        DUE.is("8: a byte below 0", x.sheet(0, 3, 255, 4), 3 + 7);
        DUE.is("8: a byte's lowest bits", x.sheet(0, 1, 256 + 6, 0), 6);
        DUE.is("8: a short keeps more", x.sheet(1, 1, 256 + 6, 0), 9);
        DUE.is("8: a short's lowest bits", x.sheet(1, 3, 65536 + 4, 65536), 12);
        DUE.is("8: a short below 0", x.sheet(1, 1, 32768, 0), 0);
        DUE.is("8: ints beyond the greatest", x.sheet(2, 2, Integer.MAX_VALUE, 1), 9);
        DUE.is("8: no entries", x.sheet(0, 0, 5, 5), 0);
        x.sheet(2, 3, 5, 0);
        DUE.is("8: n below 0", x.sheet(0, -1, 0, 0), -2);
        DUE.is("8: n below 0 changes nothing", x.count(4), 15);
        DUE.is("8: kind 4", x.sheet(4, 1, 0, 0), -1);
        DUE.is("8: kind -1", x.sheet(-1, -1, 0, 0), -1);
        DUE.is("8: n 13", x.sheet(2, 13, 0, 0), -1);
        DUE.is("8: n 13 of a missing one", x.sheet(3, 13, 0, 0), -1);
        DUE.is("8: refused, as it was", x.count(4), 15);
        DUE.is("8: missing", x.sheet(3, 0, 5, 5), -3);
        DUE.is("8: missing, all 0", x.count(4), 0);
        x.sheet(2, 3, 5, 0);
        DUE.is("8: missing, n below 0", x.sheet(3, -1, 5, 5), -3);
        DUE.is("8: missing, all 0", x.count(4), 0);
        DUE.is("8: can't be undone", x.count(8), 0);
    }
}
