/** Boundary cases that promises 1 to 8 name, each sentence with a test of its own. */
public final class PassagesEdgesTest {
    private static final Due DUE = new Due();
    private static final String TWELVE = "0110;1220;2330;3440;4550;5660;6770;7080;0191;1212;2323;3434";

    public static void main(String[] args) {
        noPassages();
        fourSigns();
        moreThanEighty();
        signsOfAnyByte();
        firstSignsAlone();
        notSoMany();
        endBelowZero();
        emptyPassages();
        oneToTwelveLines();
        endsTooEarly();
        signsOfALine();
        otherThatIsOne();
        noRoom();
        moreThanFiftyNine();
        nothingOfItComes();
        passagesLeaveTheRest();
        emptyRule();
        ruleEndsTooEarly();
        moreThanForty();
        aWrongRuleLeavesTheRule();
        aWrongRuleLeavesNothingForTheNext();
        noSuchPassage();
        anotherWhatOfAPassage();
        noSuchCavern();
        anotherWhatOfACavern();
        cavernAlone();
        bytes();
        shorts();
        ints();
        putToZeroToNine();
        thoseBehindHaveZero();
        entriesBehindThePassages();
        sheetBelowZero();
        sheetMissing();
        noSheet();
        DUE.close();
    }

    // 1: "No PASSAGES."
    private static void noPassages() {
        CaveAdvice x = new CaveAdvice();
        DUE.is("1: no PASSAGES", x.count(0), 0);
        DUE.isThrown("1: no PASSAGE 0", () -> x.passage(0, 0));
        DUE.is("1: none OPEN", x.count(1), 0);
        DUE.is("1: THE TEXT is empty", x.count(10), 0);
        DUE.row("1: the ROW is empty", x);
        DUE.is("1: no PASSAGE of a CAVERN", x.cavern(7, 0), 0);
        for (int i = 0; i < 3; i++) {
            DUE.holds("1: nothing is kept", !x.again(i));
        }
    }

    // 2: "Four signs come behind THE TEXT, of v the highest byte first: how many it has."
    private static void fourSigns() {
        CaveAdvice x = new CaveAdvice();
        DUE.is("2: four", x.sign(0x61626364), 4);
        x.end(1);
        DUE.is("2: behind what is left", x.sign(0x65666768), 5);
        DUE.is("2: how many it has", x.count(10), 5);
        Due.text(x, "").sign(0x30313233);
        x.passages();
        x.sign(0x61626364);
        x.end(1);
        x.sign(0x65666768);
        DUE.is("2: aefgh, three more each", x.hears(0, 0), 0);
        DUE.row("2: aefgh, three more each", x, 3, 7, 0, 1, 2);
    }

    // 2: "Refused: there would be more than 80."
    private static void moreThanEighty() {
        for (int length = 72; length <= 80; length++) {
            CaveAdvice x = Due.text(new CaveAdvice(), "a".repeat(length));
            boolean fits = length + 4 <= 80;
            DUE.is("2: four behind " + length, x.sign(0x61616161), fits ? length + 4 : -1);
            DUE.is("2: signs then", x.count(10), fits ? length + 4 : length);
        }
        CaveAdvice x = Due.text(new CaveAdvice(), "a".repeat(80));
        DUE.is("2: full", x.sign(0), -1);
        DUE.is("2: refused once more", x.sign(0), -1);
        x.end(3);
        DUE.is("2: refused signs did not come", x.sign(0x62626262), 7);
        CaveAdvice y = Due.cave("0110");
        Due.text(y, "a".repeat(77)).sign(0x7a7a7a7a);
        y.end(6);
        DUE.is("2: what was there stays", y.hears(0, 0), 6);
    }

    // 2: "of v the highest byte first", for each byte
    private static void signsOfAnyByte() {
        for (int b = 0; b < 256; b++) {
            CaveAdvice x = Due.cave("0110");
            x.sign(b << 24 | 0x616161);
            boolean isLetter = b >= 'a' && b <= 'h';
            DUE.is("2: byte " + b + " first", x.hears(0, 0), isLetter ? 4 : -1);
            x.sign(0x61616100 | b);
            DUE.is("2: byte " + b + " last", x.hears(0, 0), isLetter ? 4 : -4);
        }
    }

    // 3: "THE TEXT has its first n signs alone: true"
    private static void firstSignsAlone() {
        CaveAdvice x = Due.cave("0110");
        for (int n = 0; n <= 6; n++) {
            Due.text(x, "abcdef");
            DUE.holds("3: " + n + " of six", x.end(n));
            DUE.is("3: so many", x.count(10), n);
            DUE.is("3: the first ones", x.hears(0, 0), n == 0 ? -1 : n);
            DUE.is("3: a row of them", n == 0 ? 0 : x.row(n - 1), Math.max(0, n - 1));
        }
    }

    // 3: "false if it has not so many"
    private static void notSoMany() {
        CaveAdvice x = Due.text(new CaveAdvice(), "abc");
        for (int n : Edges.outside(0, 3)) {
            DUE.holds("3: false for " + n, !x.end(n));
            DUE.is("3: it stays", x.count(10), 3);
        }
        x.end(2);
        DUE.holds("3: what is gone does not come back", !x.end(3));
        CaveAdvice full = Due.text(new CaveAdvice(), "a".repeat(80));
        DUE.holds("3: 81 of 80", !full.end(81));
        DUE.holds("3: 80 of 80", full.end(80));
        DUE.holds("3: 1 of none", !new CaveAdvice().end(1));
        DUE.holds("3: 0 of none", new CaveAdvice().end(0));
    }

    // 3: "or n is below 0"
    private static void endBelowZero() {
        CaveAdvice x = new CaveAdvice();
        DUE.holds("3: -1 of none", !x.end(-1));
        Due.text(x, "abcd");
        DUE.holds("3: -1", !x.end(-1));
        DUE.holds("3: -4", !x.end(-4));
        DUE.holds("3: the least int", !x.end(Integer.MIN_VALUE));
        DUE.is("3: it stays", x.count(10), 4);
    }

    // 4: "(an empty one: nothing)"
    private static void emptyPassages() {
        CaveAdvice x = new CaveAdvice();
        DUE.is("4: an empty one", x.passages(), 0);
        DUE.is("4: nothing", x.count(0), 0);
        CaveAdvice full = Due.cave(TWELVE);
        DUE.is("4: an empty one without room", full.passages(), 0);
        DUE.is("4: twelve stay", full.count(0), 12);
        CaveAdvice worn = Due.text(Edges.worn(), "");
        DUE.is("4: an empty one", worn.passages(), 0);
        String row = Edges.rowOf(worn);
        DUE.holds("4: it leaves the ROW", row.equals(Edges.rowOf(Edges.worn())));
        DUE.holds("4: it changes nothing",
            Edges.lookThrough(Due.text(worn, "hag")).equals(Edges.lookThrough(Edges.worn())));
    }

    // 4: "how many LINES"; Terms: "each one more"
    private static void oneToTwelveLines() {
        for (int lines = 1; lines <= 12; lines++) {
            CaveAdvice x = new CaveAdvice();
            DUE.is("4: " + lines + " LINES", Due.text(x, TWELVE.substring(0, 5 * lines - 1)).passages(), lines);
            DUE.is("4: " + lines + " PASSAGES", x.count(0), lines);
            DUE.is("4: the last DELAY", x.passage(lines - 1, 2), TWELVE.charAt(5 * lines - 3) - '0');
            int room = 12 - lines;
            if (room > 0) {
                String more = TWELVE.substring(0, 5 * room - 1);
                DUE.is("4: as many as there is room for", Due.text(x, more).passages(), room);
                DUE.is("4: twelve", x.count(0), 12);
            }
        }
    }

    // 4: "its end, if it ends too early"
    private static void endsTooEarly() {
        for (int length = 1; length < 59; length++) {
            CaveAdvice x = Due.text(new CaveAdvice(), TWELVE.substring(0, length));
            boolean whole = length % 5 == 4;
            DUE.is("4: the first " + length + " signs", x.passages(), whole ? (length + 1) / 5 : -1 - length);
            DUE.is("4: PASSAGES then", x.count(0), whole ? (length + 1) / 5 : 0);
            CaveAdvice y = Edges.cut(new CaveAdvice(), TWELVE, length);
            DUE.is("4: cut behind " + length + " signs", y.passages(), whole ? (length + 1) / 5 : -1 - length);
        }
    }

    // 4: "the sign at p can't stand there"; Terms: "ONE (0 .. 7), OTHER (0 .. 7, not the same), DELAY (not 0), BEND"
    private static void signsOfALine() {
        String[] can = {"0234567", "01234567".replace("1", ""), "123456789", "0123456789"};
        for (int at = 0; at < 4; at++) {
            for (int sign = 0; sign < 256; sign++) {
                // ONE is 1 and OTHER 1 is left out, so that the other sign of the two never is the same.
                char[] line = (at == 0 ? "0110" : "1010").toCharArray();
                line[at] = (char) sign;
                boolean stands = can[at].indexOf(sign) >= 0;
                int want = stands ? 1 : at == 0 && sign == '1' ? -2 : -1 - at;
                DUE.is("4: sign " + sign + " at " + at, Due.text(new CaveAdvice(), new String(line)).passages(), want);
                String second = "0110;" + new String(line);
                want = stands ? 2 : at == 0 && sign == '1' ? -7 : -6 - at;
                DUE.is("4: sign " + sign + " at " + at + " of the second", Due.text(new CaveAdvice(), second).passages(), want);
            }
        }
        for (int sign = 0; sign < 256; sign++) {
            String between = "0110" + (char) sign + "0110";
            DUE.is("4: ; between, not " + sign, Due.text(new CaveAdvice(), between).passages(), sign == ';' ? 2 : -5);
        }
        DUE.is("4: ; ahead", Due.text(new CaveAdvice(), ";0110").passages(), -1);
        DUE.is("4: ; behind", Due.text(new CaveAdvice(), "0110;").passages(), -6);
        DUE.is("4: ; twice", Due.text(new CaveAdvice(), "0110;;0110").passages(), -6);
        DUE.is("4: a fifth digit", Due.text(new CaveAdvice(), "01100").passages(), -5);
    }

    // 4: "OTHER that is ONE: at it"
    private static void otherThatIsOne() {
        for (char c = '0'; c <= '7'; c++) {
            DUE.is("4: OTHER is ONE", Due.text(new CaveAdvice(), "" + c + c + "11").passages(), -2);
            DUE.is("4: OTHER is ONE, then the end", Due.text(new CaveAdvice(), "" + c + c).passages(), -2);
            DUE.is("4: OTHER is ONE later", Due.text(new CaveAdvice(), "0110;" + c + c + "11").passages(), -7);
        }
    }

    // 4: "the first sign of a LINE for which there is no room"
    private static void noRoom() {
        for (int had = 1; had <= 12; had++) {
            int room = 12 - had;
            String before = TWELVE.substring(0, 5 * had - 1);
            String fits = TWELVE.substring(0, 5 * room);
            CaveAdvice x = Due.cave(before);
            DUE.is("4: no room behind " + had, Due.text(x, fits + "0110").passages(), -1 - 5 * room);
            DUE.is("4: no room, and a sign that can't stand", Due.text(x, fits + "x").passages(), -1 - 5 * room);
            DUE.is("4: no room, and a LINE that can't", Due.text(x, fits + "0010").passages(), -1 - 5 * room);
            DUE.is("4: nothing of it came", x.count(0), had);
            if (room > 0) {
                DUE.is("4: a fault ahead of it", Due.text(x, "0x10" + fits.substring(4) + "0110").passages(), -2);
                DUE.is("4: a ; and no more", Due.text(x, fits).passages(), -1 - 5 * room);
            }
        }
        CaveAdvice x = Due.cave("0110");
        DUE.is("4: no room comes ahead of 59", Due.text(x, TWELVE + ";0110").passages(), -56);
    }

    // 4: "59, if it has more and the first 59 could go on or end"
    private static void moreThanFiftyNine() {
        for (String more : new String[] {";", "0", "x", ";0110", ";0110;0110;0110;0110"}) {
            CaveAdvice x = Due.text(new CaveAdvice(), TWELVE + more);
            DUE.is("4: more than 59 signs", x.passages(), -60);
            DUE.is("4: nothing of it comes", x.count(0), 0);
            DUE.is("4: THE TEXT is emptied", x.count(10), 0);
        }
        DUE.is("4: 59 signs", Due.text(new CaveAdvice(), TWELVE).passages(), 12);
        for (int p = 0; p < 59; p++) {
            String wrong = TWELVE.substring(0, p) + "x" + TWELVE.substring(p + 1) + ";0110";
            DUE.is("4: a fault ahead of 59", Due.text(new CaveAdvice(), wrong).passages(), -1 - p);
        }
    }

    // 4: "Nothing of it comes, if a LINE can't."
    private static void nothingOfItComes() {
        CaveAdvice x = Edges.worn();
        Due.text(x, "4511;5611;67x1");
        DUE.is("4: the third can't", x.passages(), -13);
        DUE.is("4: four stay", x.count(0), 4);
        DUE.is("4: no PASSAGE of 4", x.cavern(4, 0), 0);
        DUE.holds("4: it changes nothing", Edges.lookThrough(Due.text(x, "hag")).equals(Edges.lookThrough(Edges.worn())));
    }

    /** New PASSAGES leave those that are there, HOUR, CALLED, THE RULE, what was told and heard. */
    private static void passagesLeaveTheRest() {
        CaveAdvice x = Edges.worn();
        CaveAdvice y = Edges.worn();
        DUE.is("4: one more", Due.text(x, "6798").passages(), 1);
        for (int what : new int[] {2, 3, 4, 6, 7}) {
            DUE.is("4: count(" + what + ") stays", x.count(what), y.count(what));
        }
        DUE.is("4: one more is OPEN", x.count(1), y.count(1) + 1);
        DUE.is("4: its DELAY comes to the others", x.count(5), y.count(5) + 9);
        for (int q = 0; q < 4; q++) {
            for (int what = 0; what <= 5; what++) {
                DUE.is("4: PASSAGE " + q + " stays", x.passage(q, what), y.passage(q, what));
            }
        }
        DUE.is("4: THE RULE stays", Due.text(x, "hag").hears(0, 0), Due.text(y, "hag").hears(0, 0));
        DUE.holds("4: THE RULE stays", Edges.rowOf(x).equals(Edges.rowOf(y)));
        DUE.is("4: what was heard stays", x.laws(), y.laws());
        DUE.is("4: what was told stays", x.fits(), y.fits() | 1 << 4);
    }

    // 5: "(an empty one: none): 0"
    private static void emptyRule() {
        CaveAdvice x = Due.withRule(Due.cave("0112"), "7");
        Due.text(x, "a").hears(0, 0);
        DUE.row("5: THE RULE", x, 7);
        DUE.is("5: an empty one", Due.text(x, "").rule(), 0);
        Due.text(x, "a").hears(0, 0);
        DUE.row("5: none", x, 2);
        x.sheet(2, 1, 9, 0);
        Due.text(x, "b").hears(1, 0);
        DUE.row("5: none: v+b-w/3", x, 0);
    }

    // 5: "its end, if it ends too early"
    private static void ruleEndsTooEarly() {
        String rule = "-(v+12*(b-w)/3)<((d=p)+e)*-n";
        for (int length = 1; length <= rule.length(); length++) {
            String some = rule.substring(0, length);
            int open = some.length() - some.replace("(", "").length() - (some.length() - some.replace(")", "").length());
            boolean whole = open == 0 && "vbwdpne0123456789)".indexOf(some.charAt(length - 1)) >= 0;
            DUE.is("5: " + some, Due.text(new CaveAdvice(), some).rule(), whole ? 0 : -1 - length);
            DUE.is("42: " + some, Due.text(new CaveAdvice(), some).law(), whole ? 0 : -10000 - length);
            DUE.is("5: cut behind " + some, Edges.cut(new CaveAdvice(), rule, length).rule(), whole ? 0 : -1 - length);
            DUE.is("42: cut behind " + some, Edges.cut(new CaveAdvice(), rule, length).law(), whole ? 0 : -10000 - length);
        }
    }

    // 5: "40, if it has more and the first 40 could go on or end"
    private static void moreThanForty() {
        String could = "v+".repeat(19) + "vx";
        DUE.is("5: 39 signs that end", Due.text(new CaveAdvice(), could.substring(0, 39)).rule(), 0);
        DUE.is("5: a wrong sign at 39", Due.text(new CaveAdvice(), could).rule(), -40);
        String[] forty = {"v+".repeat(20), "v+".repeat(19) + "12", "(" + "v+".repeat(19) + "v", "-".repeat(40),
            "v+".repeat(18) + "(b)=", "-" + "v+".repeat(19) + "v"};
        for (String some : forty) {
            DUE.is("5: forty signs", some.length(), 40);
            for (String more : new String[] {"v", "+", ")", "x", "v+v", ";".repeat(40)}) {
                CaveAdvice x = Due.withRule(Due.cave("0110"), "5");
                DUE.is("5: " + some + more, Due.text(x, some + more).rule(), -41);
                DUE.is("42: " + some + more, Due.text(x, some + more).law(), -10040);
                Due.text(x, "a").hears(0, 0);
                DUE.row("5: THE RULE stays", x, 5);
            }
        }
        for (int i = 0; i < forty.length; i++) {
            boolean ends = i == 1 || i == 5;
            DUE.is("5: forty alone", Due.text(new CaveAdvice(), forty[i]).rule(), ends ? 0 : -41);
            DUE.is("42: forty alone", Due.text(new CaveAdvice(), forty[i]).law(), ends ? 0 : -10040);
        }
        for (int p = 0; p < 40; p++) {
            String wrong = forty[5].substring(0, p) + "x" + forty[5].substring(p + 1) + "+v";
            DUE.is("5: a fault ahead of 40", Due.text(new CaveAdvice(), wrong).rule(), -1 - p);
        }
        CaveAdvice x = Due.withRule(Due.cave("0110"), "1+".repeat(19) + "12");
        Due.text(x, "a").hears(0, 0);
        DUE.row("5: forty signs, all of them done", x, 31 & 7);
    }

    // 5: refused, it changes nothing
    private static void aWrongRuleLeavesTheRule() {
        for (String wrong : new String[] {"x", "v+", "(v", "1234", "v<b<w", "(((((v)))))", "v".repeat(80)}) {
            CaveAdvice x = Due.text(Edges.worn(), wrong);
            DUE.holds("5: refused: " + wrong, x.rule() < 0);
            DUE.holds("5: THE RULE stays", Edges.lookThrough(Due.text(x, "hag")).equals(Edges.lookThrough(Edges.worn())));
        }
    }

    /** A rule that is read behind a wrong one is that rule alone. */
    private static void aWrongRuleLeavesNothingForTheNext() {
        String[] wrong = {"-", "--", "v-", "v*", "v<", "(v<b", "((((", "(-", "v<b<", "12", "1234", "(((((", "v+(b*(w<", "-".repeat(41), "v)"};
        String[] right = {"v+1", "2", "v<4", "(v<4)+v", "-v", "((((v))))", "v-w*b"};
        int[] want = {4, 2, 1, 4, 5, 3, 7};
        for (String first : wrong) {
            for (int i = 0; i < right.length; i++) {
                CaveAdvice x = Due.cave("0112");
                x.sheet(2, 1, 6, 0);
                Due.text(x, first).rule();
                DUE.is("5: " + right[i] + " behind " + first, Due.text(x, right[i]).rule(), 0);
                Due.text(x, "d").hears(0, 0);
                DUE.row("5: " + right[i] + " behind " + first, x, want[i]);
                Due.text(x, first).law();
                Due.text(x, right[i]).law();
                DUE.is("42: " + right[i] + " behind " + first, x.row(0), x.row(1));
            }
        }
    }

    // 6: "NoSuchElementException: none such"
    private static void noSuchPassage() {
        for (int size : new int[] {0, 1, 7, 12}) {
            CaveAdvice x = size == 0 ? new CaveAdvice() : Due.cave(TWELVE.substring(0, 5 * size - 1));
            for (int q : Edges.outside(0, size - 1)) {
                for (int what = 0; what <= 5; what++) {
                    final int w = what;
                    DUE.isThrown("6: of " + size + " PASSAGES none such: " + q, () -> x.passage(q, w));
                }
            }
            for (int q = 0; q < size; q++) {
                DUE.is("6: one such", x.passage(q, 0), TWELVE.charAt(5 * q) - '0');
            }
        }
    }

    // 6: "another what"
    private static void anotherWhatOfAPassage() {
        CaveAdvice x = Edges.worn();
        for (int what : Edges.outside(0, 5)) {
            DUE.isThrown("6: what " + what, () -> x.passage(0, what));
        }
        DUE.holds("6: it changes nothing", Edges.lookThrough(x).equals(Edges.lookThrough(Edges.worn())));
        CaveAdvice y = Due.cave("3198");
        y.sheet(2, 1, 7, 0);
        int[] want = {3, 1, 9, 8, 7, 1};
        for (int what = 0; what <= 5; what++) {
            DUE.is("6: what " + what, y.passage(0, what), want[what]);
        }
        y.falls(0);
        DUE.is("6: 1 if it is OPEN, else 0", y.passage(0, 5), 0);
    }

    // 7: "NoSuchElementException: likewise."
    private static void noSuchCavern() {
        CaveAdvice x = Due.cave("0710");
        for (int c : Edges.outside(0, 7)) {
            for (int what = 0; what <= 2; what++) {
                final int w = what;
                DUE.isThrown("7: no CAVERN " + c, () -> x.cavern(c, w));
            }
        }
        DUE.is("7: CAVERN 7", x.cavern(7, 2), 1);
        DUE.is("7: CAVERN 0", x.cavern(0, 2), 1);
    }

    private static void anotherWhatOfACavern() {
        CaveAdvice x = Edges.worn();
        for (int what : Edges.outside(0, 2)) {
            DUE.isThrown("7: what " + what, () -> x.cavern(0, what));
        }
        DUE.holds("7: it changes nothing", Edges.lookThrough(x).equals(Edges.lookThrough(Edges.worn())));
    }

    // 7: "CAVERNS that are JOINED to it (bits, it too)", of one without OPEN PASSAGES
    private static void cavernAlone() {
        CaveAdvice x = Due.cave("0110");
        x.falls(0);
        for (int c = 0; c < 8; c++) {
            DUE.is("7: no OPEN PASSAGES", x.cavern(c, 0), 0);
            DUE.is("7: it too", x.cavern(c, 1), 1 << c);
            DUE.is("7: 0 minutes to itself", x.cavern(c, 2), 0);
        }
        CaveAdvice far = Due.cave("0190;1290;2390;3490;4590;5690;6790");
        DUE.is("7: all in a row", far.cavern(0, 1), 255);
        DUE.is("7: the farthest there can be", far.cavern(0, 2), 63);
        DUE.is("7: from the middle", far.cavern(3, 2), 36);
    }

    /** WEAR of a cave of twelve PASSAGES behind a sheet, as told. */
    private static void wears(String sentence, int kind, int f, int want) {
        CaveAdvice x = Due.cave(TWELVE);
        DUE.is(sentence + ", " + f, x.sheet(kind, 1, f, 0), want);
        DUE.is(sentence + ", " + f + ": WEAR", x.passage(0, 4), want);
    }

    // 8: "bytes (kind 0) ... the lowest bits, with their sign"
    private static void bytes() {
        int[] entries = {0, 9, 127, 128, 255, 256, 257, 263, 384, 511, -1, -128, -129, -250, -256, 65541, Integer.MIN_VALUE, Integer.MAX_VALUE};
        int[] want = {0, 9, 9, 0, 0, 0, 1, 7, 0, 0, 0, 0, 9, 6, 0, 5, 0, 0};
        for (int i = 0; i < entries.length; i++) {
            wears("8: a byte", 0, entries[i], want[i]);
        }
    }

    // 8: "shorts (1) ... the lowest bits, with their sign"
    private static void shorts() {
        int[] entries = {0, 9, 128, 256, 32767, 32768, 65535, 65536, 65541, 98304, -1, -32768, -32769, -65530, Integer.MIN_VALUE, Integer.MAX_VALUE};
        int[] want = {0, 9, 9, 9, 9, 0, 0, 0, 5, 0, 0, 0, 9, 6, 0, 0};
        for (int i = 0; i < entries.length; i++) {
            wears("8: a short", 1, entries[i], want[i]);
        }
    }

    // 8: "ints (2)"
    private static void ints() {
        int[] entries = {0, 9, 128, 65536, 65541, 32768, -1, -250, -65530, Integer.MIN_VALUE, Integer.MAX_VALUE};
        int[] want = {0, 9, 9, 9, 9, 9, 0, 0, 0, 0, 9};
        for (int i = 0; i < entries.length; i++) {
            wears("8: an int", 2, entries[i], want[i]);
        }
        CaveAdvice x = Due.cave(TWELVE);
        DUE.is("8: f + step beyond the greatest int", x.sheet(2, 3, Integer.MAX_VALUE, 2), 9);
        DUE.is("8: f + step below the least int", x.sheet(2, 2, Integer.MIN_VALUE, -1), 9);
        DUE.is("8: of these the second", x.passage(1, 4), 9);
        DUE.is("8: the same f each", x.sheet(2, 12, 3, 0), 36);
        DUE.is("8: a step of 1", x.sheet(2, 12, -2, 1), 1 + 2 + 3 + 4 + 5 + 6 + 7 + 8 + 9);
    }

    // 8: "(put to 0 .. 9)"
    private static void putToZeroToNine() {
        for (int kind = 0; kind <= 2; kind++) {
            for (int f = -3; f <= 12; f++) {
                wears("8: put to 0 .. 9, kind " + kind, kind, f, Math.min(9, Math.max(0, f)));
            }
        }
    }

    // 8: "those behind it have 0: the sum of all"
    private static void thoseBehindHaveZero() {
        for (int n = 0; n <= 12; n++) {
            CaveAdvice x = Due.cave(TWELVE);
            x.sheet(2, 12, 9, 0);
            DUE.is("8: " + n + " entries", x.sheet(1, n, 7, 0), 7 * n);
            for (int q = 0; q < 12; q++) {
                DUE.is("8: WEAR of " + q + " by " + n + " entries", x.passage(q, 4), q < n ? 7 : 0);
            }
        }
    }

    private static void entriesBehindThePassages() {
        CaveAdvice x = Due.cave("0110");
        DUE.is("8: twelve entries, one PASSAGE", x.sheet(2, 12, 4, 1), 4);
        Due.text(x, "0110").passages();
        DUE.is("8: a PASSAGE that comes later has WEAR 0", x.passage(1, 4), 0);
        DUE.is("8: no PASSAGES", new CaveAdvice().sheet(0, 12, 5, 0), 0);
    }

    // 8: "-2: n below 0 (of kinds 0 .. 2; nothing changes)"
    private static void sheetBelowZero() {
        String before = Edges.lookThrough(Edges.worn());
        for (int kind = 0; kind <= 2; kind++) {
            for (int n : new int[] {-1, -2, -12, -13, -256, Integer.MIN_VALUE}) {
                CaveAdvice x = Edges.worn();
                DUE.is("8: n " + n, x.sheet(kind, n, 5, 1), -2);
                DUE.holds("8: nothing changes", before.equals(Edges.lookThrough(x)));
            }
            DUE.is("8: n 0", Edges.worn().sheet(kind, 0, 5, 1), 0);
        }
    }

    // 8: "-3: missing (all 0)"
    private static void sheetMissing() {
        for (int n : new int[] {0, 1, 12, -1, Integer.MIN_VALUE}) {
            CaveAdvice x = Due.cave(TWELVE);
            x.sheet(2, 12, 9, 0);
            DUE.is("8: missing, n " + n, x.sheet(3, n, 5, 1), -3);
            DUE.is("8: all 0", x.count(4), 0);
        }
    }

    // 8: "NONE: another kind, n above 12 (these first)."
    private static void noSheet() {
        String before = Edges.look(Edges.worn());
        CaveAdvice x = Edges.worn();
        for (int kind : Edges.outside(0, 3)) {
            for (int n : new int[] {-1, 0, 1, 12, 13}) {
                DUE.is("8: kind " + kind + ", n " + n, x.sheet(kind, n, 5, 1), -1);
            }
        }
        for (int kind = 0; kind <= 3; kind++) {
            for (int n : new int[] {13, 14, 256, 65536, Integer.MAX_VALUE}) {
                DUE.is("8: n " + n + ", kind " + kind, x.sheet(kind, n, 5, 1), -1);
            }
        }
        DUE.holds("8: nothing changes", before.equals(Edges.look(x)));
    }
}
