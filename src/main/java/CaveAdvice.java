import java.util.NoSuchElementException;

/** A cave whose passages change what is called into them; DOC.md numbers its promises. */
public final class CaveAdvice {
    public static final int NONE = -1;

    private static final int NOT_JOINED = -2;
    private static final int NO_ECHO = -100;
    private static final int LAW_FAULT = -10000;
    private static final int FINE = -1;

    private static final int CAVERNS = 8;
    private static final int ALL_CAVERNS = 255;
    private static final int MOST_PASSAGES = 12;
    private static final int LETTERS = 8;
    private static final int MOST_PLACES = 6;
    private static final int MOST_HOURS = 60;
    private static final int MOST_BENDS = 9;
    private static final int MOST_WEAR = 9;
    private static final int MOST_DELAY = 9;
    private static final int MOST_CALLED = 999;
    private static final int MOST_QUESTIONS = 60;
    private static final int MOST_YEARS = 60;
    private static final int ASKED_NUMBERS = 10;

    private final Text text;
    private final Cave cave;
    private final Row numbers;
    private final History history;
    private final Echo echo;
    private final Ways ways;
    private final Clues clues;
    private final Hearings hearings;
    private Rule theRule;
    private Rule otherRule;
    private final int[] images;
    private final int[] wins;
    private int drawn;

    public CaveAdvice() {
        text = new Text();
        cave = new Cave();
        numbers = new Row();
        history = new History();
        echo = new Echo(cave);
        ways = new Ways(cave);
        clues = new Clues(cave);
        hearings = new Hearings();
        theRule = new Rule();
        otherRule = new Rule();
        images = new int[LETTERS];
        wins = new int[MOST_QUESTIONS + 1];
        drawn = 0;
    }

    // ---- passages

    public int sign(int v) {
        if (text.length + 4 > Text.MOST_SIGNS) {
            return NONE;
        }
        for (int shift = 24; shift >= 0; shift -= 8) {
            text.signs[text.length] = (char) (v >>> shift & 255);
            text.length++;
        }
        return text.length;
    }

    public boolean end(int n) {
        if (n < 0 || n > text.length) {
            return false;
        }
        text.length = n;
        return true;
    }

    public int passages() {
        int length = text.length;
        if (length == 0) {
            return 0;
        }
        int fault = text.faultOfLines(MOST_PASSAGES - cave.size);
        text.length = 0;
        if (fault != FINE) {
            return -1 - fault;
        }
        int before = cave.size;
        for (int p = 0; p < length; p += Text.LINE_SIGNS) {
            cave.add(text.digit(p), text.digit(p + 1), text.digit(p + 2), text.digit(p + 3));
        }
        history.lose();
        return cave.size - before;
    }

    public int rule() {
        int fault = otherRule.read(text);
        text.length = 0;
        if (fault != FINE) {
            return -1 - fault;
        }
        Rule read = otherRule;
        otherRule = theRule;
        theRule = read;
        return 0;
    }

    public int passage(int passage, int what) throws NoSuchElementException {
        if (!cave.has(passage)) {
            throw new NoSuchElementException();
        }
        switch (what) {
            case 0:
                return cave.one[passage];
            case 1:
                return cave.other[passage];
            case 2:
                return cave.now.delay[passage];
            case 3:
                return cave.now.bend[passage];
            case 4:
                return cave.now.wear[passage];
            case 5:
                return cave.isOpen(passage) ? 1 : 0;
            default:
                throw new NoSuchElementException();
        }
    }

    public int cavern(int cavern, int what) throws NoSuchElementException {
        if (!isCavern(cavern) || what < 0 || what > 2) {
            throw new NoSuchElementException();
        }
        if (what == 0) {
            return cave.openOf(cavern);
        }
        ways.measure();
        return what == 1 ? ways.joinedTo(cavern) : ways.farthestOf(cavern);
    }

    public int sheet(int kind, int n, int f, int step) {
        if (kind < 0 || kind > 3 || n > MOST_PASSAGES) {
            return NONE;
        }
        if (kind != 3 && n < 0) {
            return -2;
        }
        int entry = f;
        for (int q = 0; q < cave.size; q++) {
            cave.now.wear[q] = kind == 3 || q >= n ? 0 : wearToldBy(kind, entry);
            entry += step;
        }
        return kind == 3 ? -3 : cave.wearOfAll();
    }

    private static int wearToldBy(int kind, int entry) {
        int told = kind == 0 ? (byte) entry : kind == 1 ? (short) entry : entry;
        return Math.max(0, Math.min(MOST_WEAR, told));
    }

    // ---- calls, hours, digs

    public int calls(int cavern, int passage) {
        int answer = refusalOfCall(cavern, passage);
        if (answer == 0) {
            history.mark(cave.now);
            numbers.begin();
            numbers.put(echo.minutes);
            putLetters(text.length);
            answer = wearByEcho();
            history.settle(true);
        }
        text.length = 0;
        return answer;
    }

    public int hours(int n) {
        history.mark(cave.now);
        int answer = passHours(n);
        history.settle(answer >= 0);
        return answer;
    }

    public int falls(int passage) {
        history.mark(cave.now);
        int answer = turnPassage(passage);
        history.settle(answer >= 0);
        return answer;
    }

    public int digs(int passage, int d, int b) {
        history.mark(cave.now);
        int answer = digPassage(passage, d, b);
        history.settle(answer >= 0);
        return answer;
    }

    public int season() {
        int fault = text.faultOfSeason();
        if (fault != FINE) {
            text.length = 0;
            return -1 - fault;
        }
        history.mark(cave.now);
        int done = 0;
        boolean refused = false;
        for (int p = 0; p < text.length && !refused; p += Math.max(1, text.signsOfAct(p))) {
            refused = doAct(p) < 0;
            done += refused ? 0 : 1;
        }
        text.length = 0;
        history.settle(done > 0);
        numbers.begin();
        numbers.put(refused ? 1 : 0);
        numbers.put(cave.now.called);
        return done;
    }

    public int undo() {
        if (history.size == 0) {
            return NONE;
        }
        cave.now.take(history.latest());
        return history.size;
    }

    /** 0 if the whole text is a call that can be made so. */
    private int refusalOfCall(int cavern, int passage) {
        if (!echo.goes(cavern, passage)) {
            return NO_ECHO;
        }
        int fault = text.faultOfCall();
        return fault == FINE ? 0 : -1 - fault;
    }

    /** What comes out of the first letters of the text by the echo that was followed last. */
    private void putLetters(int letters) {
        for (int place = 0; place < letters; place++) {
            numbers.put(echo.comesOut(theRule, text.letter(place), place));
        }
    }

    private int wearByEcho() {
        cave.wearOut(echo);
        return echo.end;
    }

    private int passHours(int n) {
        if (n < 0 || n > MOST_HOURS) {
            return NONE;
        }
        cave.heal(n);
        return cave.wearOfAll();
    }

    private int turnPassage(int passage) {
        if (!cave.has(passage)) {
            return NONE;
        }
        cave.now.open ^= 1 << passage;
        return Integer.bitCount(cave.now.open);
    }

    private int digPassage(int passage, int d, int b) {
        if (!cave.has(passage) || d < 1 || d > MOST_DELAY || b < 0 || b > MOST_BENDS) {
            return NONE;
        }
        int delay = cave.now.delay[passage];
        int bend = cave.now.bend[passage];
        if (delay == d && bend == b) {
            return -2;
        }
        cave.now.delay[passage] = d;
        cave.now.bend[passage] = b;
        return 100 + 10 * delay + bend;
    }

    private int doAct(int p) {
        switch (text.signs[p]) {
            case 'n':
                return passHours(text.digit(p + 1));
            case 'x':
                return turnPassage(text.digit(p + 1));
            case 'm':
                return digPassage(text.digit(p + 1), text.digit(p + 2), text.digit(p + 3));
            default:
                // The letters that come out are not told by a season, so they are not worked out.
                return echo.goes(text.digit(p + 1), text.digit(p + 2)) ? wearByEcho() : NO_ECHO;
        }
    }

    // ---- what comes out

    public int route(int cavern, int passage) {
        if (!echo.goes(cavern, passage)) {
            return NONE;
        }
        numbers.begin();
        numbers.put(echo.minutes);
        for (int i = 0; i < echo.length; i++) {
            numbers.put(echo.gone[i]);
        }
        return echo.end;
    }

    public int hears(int cavern, int passage) {
        int refusal = refusalOfCall(cavern, passage);
        int letters = text.length;
        text.length = 0;
        if (refusal != 0) {
            return refusal;
        }
        numbers.begin();
        putLetters(letters);
        int same = 0;
        for (int place = 0; place < letters; place++) {
            same += numbers.at(place) == text.letter(place) ? 1 : 0;
        }
        return same;
    }

    public int asks(int cavern, int passage) {
        int refusal = refusalOfCall(cavern, passage);
        int letters = text.length;
        text.length = 0;
        if (refusal != 0) {
            return refusal;
        }
        numbers.begin();
        int fitting = 1;
        for (int place = 0; place < letters; place++) {
            echo.imagesAt(theRule, place, images);
            fitting *= timesAmongImages(text.letter(place));
            numbers.put(firstImage(text.letter(place)));
        }
        if (fitting == 0) {
            numbers.begin();
        }
        return fitting;
    }

    public int becomes() {
        int fault = text.faultOfPair();
        int letters = text.length / 2;
        text.length = 0;
        if (fault != FINE) {
            return -1 - fault;
        }
        numbers.begin();
        int pairs = 0;
        for (int c = 0; c < CAVERNS; c++) {
            for (int q = 0; q < cave.size; q++) {
                if (echo.goes(c, q) && turnsIntoOther(letters)) {
                    putIfFirst(c, q);
                    pairs++;
                }
            }
        }
        return pairs;
    }

    public int keeps(int cavern, int passage) {
        if (!echo.goes(cavern, passage)) {
            return NONE;
        }
        numbers.begin();
        int all = 0;
        for (int place = 0; place < MOST_PLACES; place++) {
            echo.imagesAt(theRule, place, images);
            int same = 0;
            for (int letter = 0; letter < LETTERS; letter++) {
                same += images[letter] == letter ? 1 : 0;
            }
            numbers.put(same);
            all += same;
        }
        return all;
    }

    public int apart(int cavern, int passage, int n) {
        if (n < 1 || n > MOST_PLACES || !echo.goes(cavern, passage)) {
            return NONE;
        }
        // Each place changes by itself, so both numbers are products over the places.
        int different = 1;
        int alike = 1;
        for (int place = 0; place < n; place++) {
            echo.imagesAt(theRule, place, images);
            int seen = 0;
            int most = 0;
            for (int letter = 0; letter < LETTERS; letter++) {
                int times = timesAmongImages(letter);
                seen += times > 0 ? 1 : 0;
                most = Math.max(most, times);
            }
            different *= seen;
            alike *= most;
        }
        numbers.begin();
        numbers.put(alike);
        return different;
    }

    public int longest(int cavern) {
        if (!isCavern(cavern)) {
            return NONE;
        }
        int best = -2;
        int minutes = 0;
        int end = 0;
        for (int q = 0; q < cave.size; q++) {
            if (echo.goes(cavern, q) && echo.minutes > minutes) {
                best = q;
                minutes = echo.minutes;
                end = echo.end;
            }
        }
        if (best >= 0) {
            numbers.begin();
            numbers.put(minutes);
            numbers.put(end);
        }
        return best;
    }

    public int rounds() {
        int from = 0;
        int echoes = 0;
        int back = 0;
        for (int c = 0; c < CAVERNS; c++) {
            for (int q = 0; q < cave.size; q++) {
                if (echo.goes(c, q)) {
                    echoes++;
                    if (echo.end == c) {
                        back++;
                        from |= 1 << c;
                    }
                }
            }
        }
        numbers.begin();
        numbers.put(echoes);
        numbers.put(back);
        return from;
    }

    /** Pairs come in their order, so that the first one is the least. */
    private void putIfFirst(int one, int other) {
        if (numbers.size == 0) {
            numbers.put(one);
            numbers.put(other);
        }
    }

    private int timesAmongImages(int wanted) {
        int times = 0;
        for (int letter = 0; letter < LETTERS; letter++) {
            times += images[letter] == wanted ? 1 : 0;
        }
        return times;
    }

    private int firstImage(int wanted) {
        for (int letter = 0; letter < LETTERS; letter++) {
            if (images[letter] == wanted) {
                return letter;
            }
        }
        return NONE;
    }

    /** The text still holds the first call, a sign between, and the second one. */
    private boolean turnsIntoOther(int letters) {
        for (int place = 0; place < letters; place++) {
            int out = echo.comesOut(theRule, text.letter(place), place);
            if (out != text.letter(letters + 1 + place)) {
                return false;
            }
        }
        return true;
    }

    // ---- ways

    public int way(int from, int to) {
        if (!isCavern(from) || !isCavern(to)) {
            return NONE;
        }
        ways.measure();
        int minutes = ways.farOf(from, to);
        if (minutes == Ways.FAR_OFF) {
            return NOT_JOINED;
        }
        numbers.begin();
        int at = from;
        for (int steps = 0; steps < CAVERNS && at != to; steps++) {
            int q = ways.firstStep(at, to);
            if (q != NONE) {
                numbers.put(q);
                at = cave.acrossFrom(at, q);
            }
        }
        return minutes;
    }

    public int meets(int one, int other) {
        if (!isCavern(one) || !isCavern(other)) {
            return NONE;
        }
        ways.measure();
        if (ways.farOf(one, other) == Ways.FAR_OFF) {
            return NOT_JOINED;
        }
        int best = 0;
        for (int c = 1; c < CAVERNS; c++) {
            if (ways.laterOf(one, other, c) < ways.laterOf(one, other, best)) {
                best = c;
            }
        }
        numbers.begin();
        numbers.put(ways.farOf(one, best));
        numbers.put(ways.farOf(other, best));
        return best;
    }

    public int heart() {
        if (cave.now.open == 0) {
            return -2;
        }
        ways.measure();
        int best = 0;
        for (int c = 1; c < CAVERNS; c++) {
            int more = joinedCount(c) - joinedCount(best);
            if (more > 0 || more == 0 && ways.farthestOf(c) < ways.farthestOf(best)) {
                best = c;
            }
        }
        numbers.begin();
        numbers.put(ways.farthestOf(best));
        numbers.put(joinedCount(best));
        return best;
    }

    public int ropes() {
        int laid = 0;
        int minutes = 0;
        for (int delay = 1; delay <= MOST_DELAY; delay++) {
            for (int q = 0; q < cave.size; q++) {
                if (cave.isOpen(q) && cave.now.delay[q] == delay && !ways.joinsEnds(laid, q)) {
                    laid |= 1 << q;
                    minutes += delay;
                }
            }
        }
        numbers.begin();
        numbers.put(laid);
        numbers.put(Integer.bitCount(laid));
        return minutes;
    }

    public int needed() {
        int open = cave.now.open;
        int needed = 0;
        for (int q = 0; q < cave.size; q++) {
            if (cave.isOpen(q) && !ways.joinsEnds(open & ~(1 << q), q)) {
                needed |= 1 << q;
            }
        }
        int entered = cave.enteredCaverns();
        numbers.begin();
        numbers.put(Integer.bitCount(needed));
        numbers.put(Integer.bitCount(entered));
        numbers.put(ways.heapsOf(entered));
        return needed;
    }

    public int tour(int cavern, int some) {
        if (!isCavern(cavern) || some < 0 || some > ALL_CAVERNS) {
            return NONE;
        }
        ways.measure();
        if ((some & ~ways.joinedTo(cavern)) != 0) {
            return NOT_JOINED;
        }
        int due = some & ~(1 << cavern);
        ways.planTours(cavern, due);
        int minutes = ways.minutesLeft(due, cavern);
        numbers.begin();
        int at = cavern;
        for (int left = Integer.bitCount(due); left > 0; left--) {
            at = ways.nextOfTour(due, at);
            due &= ~(1 << at);
            numbers.put(at);
        }
        return minutes;
    }

    public int halves() {
        int half = ways.firstHalf();
        numbers.begin();
        if (half == NONE) {
            return 0;
        }
        numbers.put(half);
        return 1;
    }

    public int guides() {
        int best = ALL_CAVERNS;
        for (int stand = 0; stand <= ALL_CAVERNS; stand++) {
            if (Integer.bitCount(stand) < Integer.bitCount(best) && ways.guarded(stand)) {
                best = stand;
            }
        }
        numbers.begin();
        numbers.put(best);
        return Integer.bitCount(best);
    }

    public int most() {
        int best = Ways.mostApart(cave, cave.size - 1, 0, 0, 0);
        numbers.begin();
        numbers.put(best);
        return Integer.bitCount(best);
    }

    private int joinedCount(int cavern) {
        return Integer.bitCount(ways.joinedTo(cavern));
    }

    // ---- which passage it was

    public int told(int what, int v) {
        return clues.add(what, v) ? clues.size : NONE;
    }

    public int forget() {
        int were = clues.size;
        clues.size = 0;
        return were;
    }

    public int fits() {
        int fitting = clues.fittingPassages();
        numbers.begin();
        numbers.put(Integer.bitCount(fitting));
        return fitting;
    }

    public int next() {
        int fitting = clues.fittingPassages();
        if (fitting == 0) {
            return -2;
        }
        int best = NONE;
        int fewest = MOST_PASSAGES + 1;
        for (int c = 0; c < CAVERNS; c++) {
            int ends = Integer.bitCount(fitting & cave.endingAt(c));
            int left = Math.max(ends, Integer.bitCount(fitting) - ends);
            if (left < fewest) {
                best = c;
                fewest = left;
            }
        }
        numbers.begin();
        numbers.put(fewest);
        return best;
    }

    // ---- laws of change

    public int heard(int v, int b, int w) {
        return hearings.add(v, b, w) ? hearings.size : NONE;
    }

    public int denied() {
        int were = hearings.size;
        hearings.size = 0;
        return were;
    }

    public int laws() {
        hearings.findFitting();
        numbers.begin();
        if (hearings.fittingSize > 0) {
            numbers.put(hearings.fitting[0] / LETTERS);
            numbers.put(hearings.fitting[0] % LETTERS);
        }
        return hearings.fittingSize;
    }

    public int listens() {
        hearings.findFitting();
        if (hearings.fittingSize == 0) {
            return -2;
        }
        int best = NONE;
        int fewest = Hearings.LAWS + 1;
        for (int v = 0; v < LETTERS; v++) {
            for (int b = 0; b <= MOST_BENDS; b++) {
                int left = hearings.mostLeft(v, b);
                if (left < fewest) {
                    best = 10 * v + b;
                    fewest = left;
                }
            }
        }
        numbers.begin();
        numbers.put(fewest);
        return best;
    }

    // ---- hints, a game

    public int hints(int cavern, int passage, int v, int w, int p) {
        if (!isLetter(v) || !isLetter(w) || p < 0 || p > 10 || !echo.goes(cavern, passage)) {
            return NONE;
        }
        long whole = echo.spread(theRule, v, p);
        long part = echo.chances[w];
        long common = commonDivisor(whole, part);
        numbers.begin();
        numbers.put(part / common);
        numbers.put(whole / common);
        return 0;
    }

    public int game(int n, int k) {
        if (n < 0 || n > MOST_QUESTIONS || k < 2 || k > 9) {
            return NONE;
        }
        int good = 0;
        for (int left = 0; left <= n; left++) {
            good = goodMoves(left, k);
            wins[left] = winsBehind(left, k, good);
        }
        for (int move = 1; move <= k; move++) {
            if ((good >> move & 1) == 1) {
                return move;
            }
        }
        return 0;
    }

    /** Bits of the moves that leave the other one lost; wins[] holds for fewer questions. */
    private int goodMoves(int left, int k) {
        int good = 0;
        for (int move = 1; move <= k && move <= left; move++) {
            if ((wins[left - move] >> move & 1) == 0) {
                good |= 1 << move;
            }
        }
        return good;
    }

    /** Bits of the numbers just asked (0 for none) behind which the one who asks now wins. */
    private static int winsBehind(int left, int k, int good) {
        int moves = (1 << Math.min(left, k) + 1) - 2;
        int won = 0;
        for (int last = 0; last <= k; last++) {
            int other = ~(1 << last);
            if ((good & other) != 0 || (moves & other) == 0) {
                won |= 1 << last;
            }
        }
        return won;
    }

    /** Never 0, whatever the second one is, if the first one is above 0. */
    private static long commonDivisor(long first, long second) {
        long a = first;
        long b = second;
        for (int i = 0; i < 1000 && b != 0; i++) {
            long rest = a % b;
            a = b;
            b = rest;
        }
        return a > 0 ? a : 1;
    }

    // ---- laws, rests, years

    public int law() {
        int fault = otherRule.read(text);
        text.length = 0;
        if (fault != FINE) {
            return LAW_FAULT - fault;
        }
        int byOther = keptBy(otherRule);
        int byRule = keptBy(theRule);
        numbers.begin();
        numbers.put(byOther);
        numbers.put(byRule);
        return byOther - byRule;
    }

    public int rests(int v) {
        if (v < 0 || v > 20) {
            return NONE;
        }
        numbers.begin();
        int pairs = 0;
        for (int x = 0; x < ASKED_NUMBERS; x++) {
            for (int y = 0; y < ASKED_NUMBERS; y++) {
                if (isBestAnswer(x, y, v) && isBestAnswer(y, x, v)) {
                    putIfFirst(x, y);
                    pairs++;
                }
            }
        }
        return pairs;
    }

    public int years(int seed, int n) {
        if (n < 1 || n > MOST_YEARS) {
            return NONE;
        }
        // It is a question: the years are lived and then taken back.
        history.mark(cave.now);
        drawn = seed;
        int echoes = 0;
        for (int i = 0; i < n; i++) {
            echoes += liveYear();
        }
        numbers.begin();
        numbers.put(Integer.bitCount(cave.now.open));
        numbers.put(echoes);
        int wear = cave.wearOfAll();
        cave.now.take(history.marked());
        return wear;
    }

    private int keptBy(Rule law) {
        echo.learnSteps(law);
        int same = 0;
        for (int c = 0; c < CAVERNS; c++) {
            for (int q = 0; q < cave.size; q++) {
                if (echo.goes(c, q)) {
                    same += echo.keptByLearntSteps();
                }
            }
        }
        return same;
    }

    private static boolean isBestAnswer(int mine, int yours, int v) {
        int gain = gainOf(mine, yours, v);
        for (int x = 0; x < ASKED_NUMBERS; x++) {
            if (gainOf(x, yours, v) > gain) {
                return false;
            }
        }
        return true;
    }

    private static int gainOf(int mine, int yours, int v) {
        if (mine > yours) {
            return -1;
        }
        int taken = mine + v / 4;
        return mine == yours ? taken / 2 : taken;
    }

    /** How many echoes were made in it: 0 or 1. */
    private int liveYear() {
        int kind = draw(4);
        if (kind == 0) {
            cave.heal(1);
            return 0;
        }
        if (cave.size == 0) {
            return 0;
        }
        if (kind == 3) {
            turnPassage(draw(cave.size));
            return 0;
        }
        int cavern = draw(CAVERNS);
        if (!echo.goes(cavern, draw(cave.size))) {
            return 0;
        }
        cave.wearOut(echo);
        return 1;
    }

    private int draw(int n) {
        drawn = drawn * 1103515245 + 12345;
        return n > 0 ? (drawn >>> 16) % n : 0;
    }

    // ---- kept

    public boolean keep(int i) {
        return history.store(i, cave.now);
    }

    public boolean again(int i) {
        if (!history.hasStored(i)) {
            return false;
        }
        cave.now.take(history.stored[i]);
        history.size = 0;
        return true;
    }

    public int count(int what) {
        switch (what) {
            case 0:
                return cave.size;
            case 1:
                return Integer.bitCount(cave.now.open);
            case 2:
                return cave.now.hour;
            case 3:
                return cave.now.called;
            case 4:
                return cave.wearOfAll();
            case 5:
                return cave.delayOfAll();
            case 6:
                return clues.size;
            case 7:
                return hearings.size;
            case 8:
                return history.size;
            case 9:
                return numbers.size;
            case 10:
                return text.length;
            default:
                return -100;
        }
    }

    public long row(int i) throws NoSuchElementException {
        if (i < 0 || i >= numbers.size) {
            throw new NoSuchElementException();
        }
        return numbers.at(i);
    }

    private static boolean isCavern(int cavern) {
        return cavern >= 0 && cavern < CAVERNS;
    }

    private static boolean isLetter(int letter) {
        return letter >= 0 && letter < LETTERS;
    }

    /** THE TEXT. Its signs outlive its length, so that a call can empty it and still read it. */
    private static final class Text {
        static final int MOST_SIGNS = 80;
        static final int LINE_SIGNS = 5;
        static final int MOST_LINES_SIGNS = 59;
        static final int MOST_SEASON_SIGNS = 60;
        static final int NO_CALL = -1;

        final char[] signs;
        int length;

        Text() {
            signs = new char[MOST_SIGNS];
            length = 0;
        }

        boolean within(int p, char least, char most) {
            return p >= 0 && p < MOST_SIGNS && signs[p] >= least && signs[p] <= most;
        }

        int digit(int p) {
            return p >= 0 && p < MOST_SIGNS ? signs[p] - '0' : NONE;
        }

        int letter(int p) {
            return p >= 0 && p < MOST_SIGNS ? signs[p] - 'a' : NONE;
        }

        /** How many letters stand from p on, before another sign or the end. */
        int lettersFrom(int p) {
            int letters = 0;
            while (p + letters < length && within(p + letters, 'a', 'h')) {
                letters++;
            }
            return letters;
        }

        int faultOfLines(int room) {
            int shown = Math.min(length, MOST_LINES_SIGNS);
            for (int p = 0; p < shown; p++) {
                if (!standsInLine(p, room)) {
                    return p;
                }
            }
            boolean early = shown % LINE_SIGNS != LINE_SIGNS - 1;
            return early || length > MOST_LINES_SIGNS ? shown : FINE;
        }

        private boolean standsInLine(int p, int room) {
            switch (p % LINE_SIGNS) {
                case 0:
                    return p / LINE_SIGNS < room && within(p, '0', '7');
                case 1:
                    return within(p, '0', '7') && digit(p) != digit(p - 1);
                case 2:
                    return within(p, '1', '9');
                case 3:
                    return within(p, '0', '9');
                default:
                    return within(p, ';', ';');
            }
        }

        int faultOfCall() {
            int letters = lettersFrom(0);
            if (letters > MOST_PLACES) {
                return MOST_PLACES;
            }
            return letters == 0 || letters < length ? letters : FINE;
        }

        int faultOfPair() {
            int letters = Math.min(lettersFrom(0), MOST_PLACES);
            if (letters == 0 || letters >= length || !within(letters, ';', ';')) {
                return letters;
            }
            int end = letters + 1 + Math.min(lettersFrom(letters + 1), letters);
            return end < 2 * letters + 1 || end < length ? end : FINE;
        }

        int faultOfSeason() {
            int shown = Math.min(length, MOST_SEASON_SIGNS);
            int digits = 0;
            int letters = NO_CALL;
            for (int p = 0; p < shown; p++) {
                if (digits > 0) {
                    if (!within(p, '0', '9')) {
                        return p;
                    }
                    digits--;
                } else if (letters != NO_CALL && within(p, 'a', 'h')) {
                    if (letters == MOST_PLACES) {
                        return p;
                    }
                    letters++;
                } else {
                    digits = digitsOfAct(p);
                    if (digits == 0 || letters == 0) {
                        return p;
                    }
                    letters = within(p, 's', 's') ? 0 : NO_CALL;
                }
            }
            boolean early = digits > 0 || letters == 0;
            return early || length > MOST_SEASON_SIGNS ? shown : FINE;
        }

        /** 0 if no act begins with the sign at p. */
        private int digitsOfAct(int p) {
            if (within(p, 'n', 'n') || within(p, 'x', 'x')) {
                return 1;
            }
            if (within(p, 's', 's')) {
                return 2;
            }
            return within(p, 'm', 'm') ? 3 : 0;
        }

        int signsOfAct(int p) {
            int digits = digitsOfAct(p);
            int letters = within(p, 's', 's') ? lettersFrom(p + 3) : 0;
            return 1 + digits + letters;
        }
    }

    /** What undo() and again() bring back. */
    private static final class State {
        final int[] delay;
        final int[] bend;
        final int[] wear;
        int open;
        int hour;
        int called;

        State() {
            delay = new int[MOST_PASSAGES];
            bend = new int[MOST_PASSAGES];
            wear = new int[MOST_PASSAGES];
            open = 0;
            hour = 0;
            called = 0;
        }

        void take(State from) {
            System.arraycopy(from.delay, 0, delay, 0, MOST_PASSAGES);
            System.arraycopy(from.bend, 0, bend, 0, MOST_PASSAGES);
            System.arraycopy(from.wear, 0, wear, 0, MOST_PASSAGES);
            open = from.open;
            hour = from.hour;
            called = from.called;
        }
    }

    /** The passages and how they are now. */
    private static final class Cave {
        final int[] one;
        final int[] other;
        int size;
        final State now;

        Cave() {
            one = new int[MOST_PASSAGES];
            other = new int[MOST_PASSAGES];
            size = 0;
            now = new State();
        }

        void add(int from, int to, int delay, int bend) {
            if (size >= MOST_PASSAGES) {
                return;
            }
            one[size] = from;
            other[size] = to;
            now.delay[size] = delay;
            now.bend[size] = bend;
            now.wear[size] = 0;
            now.open |= 1 << size;
            size++;
        }

        boolean has(int passage) {
            return passage >= 0 && passage < size;
        }

        boolean isOpen(int passage) {
            return (now.open >> passage & 1) == 1;
        }

        boolean isEnd(int cavern, int passage) {
            return one[passage] == cavern || other[passage] == cavern;
        }

        int acrossFrom(int cavern, int passage) {
            return one[passage] == cavern ? other[passage] : one[passage];
        }

        int endsOf(int passage) {
            return 1 << one[passage] | 1 << other[passage];
        }

        /** All passages, open or not, that end there. */
        int endingAt(int cavern) {
            int bits = 0;
            for (int q = 0; q < size; q++) {
                if (isEnd(cavern, q)) {
                    bits |= 1 << q;
                }
            }
            return bits;
        }

        int openOf(int cavern) {
            return endingAt(cavern) & now.open;
        }

        int enteredCaverns() {
            int caverns = 0;
            for (int q = 0; q < size; q++) {
                if (isOpen(q)) {
                    caverns |= endsOf(q);
                }
            }
            return caverns;
        }

        void heal(int hours) {
            for (int q = 0; q < size; q++) {
                now.wear[q] = Math.max(0, now.wear[q] - hours);
            }
            now.hour += hours;
        }

        void wearOut(Echo echo) {
            for (int i = 0; i < echo.length; i++) {
                int q = echo.gone[i];
                now.wear[q] = Math.min(MOST_WEAR, now.wear[q] + 1);
            }
            now.called = Math.min(MOST_CALLED, now.called + 1);
        }

        int wearOfAll() {
            int all = 0;
            for (int q = 0; q < size; q++) {
                all += now.wear[q];
            }
            return all;
        }

        int delayOfAll() {
            int all = 0;
            for (int q = 0; q < size; q++) {
                all += now.delay[q];
            }
            return all;
        }
    }

    /** What can be undone, and what is kept under numbers. */
    private static final class History {
        static final int MOST_UNDONE = 15;
        // One slot more than can be undone: the state ahead of what may yet be taken back.
        static final int SLOTS = 16;
        static final int NUMBERS = 3;

        final State[] slots;
        int first;
        int size;
        final State[] stored;
        final boolean[] isStored;

        History() {
            slots = new State[SLOTS];
            for (int i = 0; i < SLOTS; i++) {
                slots[i] = new State();
            }
            first = 0;
            size = 0;
            stored = new State[NUMBERS];
            for (int i = 0; i < NUMBERS; i++) {
                stored[i] = new State();
            }
            isStored = new boolean[NUMBERS];
        }

        void mark(State now) {
            marked().take(now);
        }

        State marked() {
            return slots[(first + size) % SLOTS];
        }

        /** What was marked last can be undone, if the act was done. */
        void settle(boolean done) {
            if (!done) {
                return;
            }
            if (size < MOST_UNDONE) {
                size++;
            } else {
                first = (first + 1) % SLOTS;
            }
        }

        State latest() {
            size = Math.max(0, size - 1);
            return marked();
        }

        boolean store(int i, State now) {
            if (i < 0 || i >= NUMBERS) {
                return false;
            }
            stored[i].take(now);
            isStored[i] = true;
            return true;
        }

        boolean hasStored(int i) {
            return i >= 0 && i < NUMBERS && isStored[i];
        }

        /** New passages came: no earlier state tells of them. */
        void lose() {
            size = 0;
            for (int i = 0; i < NUMBERS; i++) {
                isStored[i] = false;
            }
        }
    }

    /** A rule, turned so that each operation stands behind the things that it takes. */
    private static final class Rule {
        static final int MOST_RULE_SIGNS = 40;
        static final int MOST_DEPTH = 4;
        static final int MOST_DIGITS = 3;
        // Codes below it are numbers of the rule.
        static final int THING = 1000;
        static final int THINGS = 7;
        static final int OPERATION = 2000;
        static final char NEGATED = '~';

        final int[] code;
        int size;
        final char[] waiting;
        int waitingSize;
        int depth;
        int compared;
        int digits;
        boolean wantsThing;
        final int[] things;
        final int[] stack;

        Rule() {
            code = new int[MOST_RULE_SIGNS];
            size = 0;
            waiting = new char[MOST_RULE_SIGNS];
            waitingSize = 0;
            depth = 0;
            compared = 0;
            digits = 0;
            wantsThing = true;
            things = new int[THINGS];
            stack = new int[MOST_RULE_SIGNS];
        }

        /** The place of the first sign that can't stand there, or FINE. */
        int read(Text text) {
            size = 0;
            waitingSize = 0;
            depth = 0;
            compared = 0;
            digits = 0;
            wantsThing = true;
            if (text.length == 0) {
                return FINE;
            }
            int shown = Math.min(text.length, MOST_RULE_SIGNS);
            for (int p = 0; p < shown; p++) {
                char sign = text.signs[p];
                if (!(wantsThing ? takesThing(sign) : takesBehindThing(sign))) {
                    return p;
                }
            }
            if (wantsThing || depth > 0 || text.length > MOST_RULE_SIGNS) {
                return shown;
            }
            release(1);
            return FINE;
        }

        private boolean takesThing(char sign) {
            if (sign == '-') {
                hold(NEGATED);
                return true;
            }
            if (sign == '(') {
                if (depth == MOST_DEPTH) {
                    return false;
                }
                depth++;
                compared &= ~(1 << depth);
                hold('(');
                return true;
            }
            int thing = "vbwdpne".indexOf(sign);
            boolean isDigit = sign >= '0' && sign <= '9';
            if (!isDigit && thing < 0) {
                return false;
            }
            emit(isDigit ? sign - '0' : THING + thing);
            digits = isDigit ? 1 : 0;
            wantsThing = false;
            return true;
        }

        private boolean takesBehindThing(char sign) {
            if (sign >= '0' && sign <= '9') {
                return takesDigit(sign - '0');
            }
            digits = 0;
            if (sign == ')') {
                return closes();
            }
            int binding = bindingOf(sign);
            boolean compares = binding == 1;
            if (binding == 0 || compares && (compared >> depth & 1) == 1) {
                return false;
            }
            if (compares) {
                compared |= 1 << depth;
            }
            release(binding);
            hold(sign);
            wantsThing = true;
            return true;
        }

        private boolean takesDigit(int digit) {
            if (digits == 0 || digits == MOST_DIGITS || size == 0) {
                return false;
            }
            code[size - 1] = 10 * code[size - 1] + digit;
            digits++;
            return true;
        }

        private boolean closes() {
            if (depth == 0) {
                return false;
            }
            release(1);
            waitingSize = Math.max(0, waitingSize - 1);
            depth--;
            return true;
        }

        private static int bindingOf(char sign) {
            switch (sign) {
                case '<':
                case '>':
                case '=':
                    return 1;
                case '+':
                case '-':
                    return 2;
                case '*':
                case '/':
                    return 3;
                default:
                    return 0;
            }
        }

        private void hold(char operation) {
            if (waitingSize < MOST_RULE_SIGNS) {
                waiting[waitingSize] = operation;
                waitingSize++;
            }
        }

        private void emit(int next) {
            if (size < MOST_RULE_SIGNS) {
                code[size] = next;
                size++;
            }
        }

        /** Operations that bind as much or more are done first; a ( holds back those ahead of it. */
        private void release(int binding) {
            while (waitingSize > 0 && bindsAtLeast(waiting[waitingSize - 1], binding)) {
                waitingSize--;
                emit(OPERATION + waiting[waitingSize]);
            }
        }

        private static boolean bindsAtLeast(char operation, int binding) {
            return operation == NEGATED || operation != '(' && bindingOf(operation) >= binding;
        }

        /** What a letter becomes at a place of a call by a passage; back is 1 from OTHER to ONE. */
        int changed(State now, int passage, int back, int place, int letter) {
            if (size == 0) {
                return letter + now.bend[passage] - now.wear[passage] / 3 & 7;
            }
            things[0] = letter;
            things[1] = now.bend[passage];
            things[2] = now.wear[passage];
            things[3] = now.delay[passage];
            things[4] = place;
            things[5] = now.hour % 7;
            things[6] = back;
            return valueOfThings() & 7;
        }

        private int valueOfThings() {
            int top = 0;
            for (int i = 0; i < size; i++) {
                int next = code[i];
                if (next < THING) {
                    stack[top] = next;
                    top++;
                } else if (next < OPERATION) {
                    stack[top] = things[next - THING];
                    top++;
                } else if (next == OPERATION + NEGATED && top > 0) {
                    stack[top - 1] = -stack[top - 1];
                } else if (top > 1) {
                    top--;
                    stack[top - 1] = joined(next - OPERATION, stack[top - 1], stack[top]);
                }
            }
            return stack[0];
        }

        private static int joined(int operation, int a, int b) {
            switch (operation) {
                case '<':
                    return a < b ? 1 : 0;
                case '>':
                    return a > b ? 1 : 0;
                case '=':
                    return a == b ? 1 : 0;
                case '+':
                    return a + b;
                case '-':
                    return a - b;
                case '*':
                    return a * b;
                default:
                    return b == 0 ? 0 : a / b;
            }
        }
    }

    /** The echo that was followed last. */
    private static final class Echo {
        final Cave cave;
        final int[] gone;
        final int[] back;
        int length;
        int minutes;
        int end;
        final int[] steps;
        final long[] chances;
        final long[] later;

        Echo(Cave cave) {
            this.cave = cave;
            gone = new int[MOST_PASSAGES];
            back = new int[MOST_PASSAGES];
            length = 0;
            minutes = 0;
            end = 0;
            steps = new int[MOST_PASSAGES * 2 * LETTERS];
            chances = new long[LETTERS];
            later = new long[LETTERS];
        }

        /** False, and nothing is followed, if no echo can be made so. */
        boolean goes(int cavern, int passage) {
            if (!cave.has(passage) || !cave.isOpen(passage) || !cave.isEnd(cavern, passage)) {
                return false;
            }
            length = 0;
            minutes = 0;
            end = cavern;
            int left = cave.now.open;
            int q = passage;
            while (q != NONE && length < MOST_PASSAGES) {
                gone[length] = q;
                back[length] = cave.other[q] == end ? 1 : 0;
                length++;
                minutes += cave.now.delay[q];
                left &= ~(1 << q);
                end = cave.acrossFrom(end, q);
                q = end == cavern ? NONE : leastOf(left & cave.openOf(end));
            }
            return true;
        }

        private int leastOf(int bits) {
            return bits == 0 ? NONE : Integer.numberOfTrailingZeros(bits);
        }

        int comesOut(Rule law, int letter, int place) {
            int out = letter;
            for (int i = 0; i < length; i++) {
                out = law.changed(cave.now, gone[i], back[i], place, out);
            }
            return out;
        }

        void imagesAt(Rule law, int place, int[] images) {
            for (int letter = 0; letter < images.length; letter++) {
                images[letter] = comesOut(law, letter, place);
            }
        }

        /** Many echoes go by the same passages: what each does at place 0 is worked out once. */
        void learnSteps(Rule law) {
            for (int q = 0; q < cave.size; q++) {
                for (int letter = 0; letter < LETTERS; letter++) {
                    steps[stepAt(q, 0, letter)] = law.changed(cave.now, q, 0, 0, letter);
                    steps[stepAt(q, 1, letter)] = law.changed(cave.now, q, 1, 0, letter);
                }
            }
        }

        private static int stepAt(int passage, int backwards, int letter) {
            return (passage * 2 + backwards) * LETTERS + letter;
        }

        int keptByLearntSteps() {
            int same = 0;
            for (int letter = 0; letter < LETTERS; letter++) {
                int out = letter;
                for (int i = 0; i < length; i++) {
                    out = steps[stepAt(gone[i], back[i], out)];
                }
                same += out == letter ? 1 : 0;
            }
            return same;
        }

        /** Fills chances with how often each letter comes out, of as many times as it answers. */
        long spread(Rule law, int letter, int tenths) {
            for (int v = 0; v < LETTERS; v++) {
                chances[v] = v == letter ? 1 : 0;
            }
            long whole = 1;
            for (int i = 0; i < length; i++) {
                for (int v = 0; v < LETTERS; v++) {
                    later[v] = chances[v] * tenths;
                }
                for (int v = 0; v < LETTERS; v++) {
                    later[law.changed(cave.now, gone[i], back[i], 0, v)] += chances[v] * (10 - tenths);
                }
                System.arraycopy(later, 0, chances, 0, LETTERS);
                whole *= 10;
            }
            return whole;
        }
    }

    /** Ways by open passages. */
    private static final class Ways {
        static final int FAR_OFF = 1000;

        final Cave cave;
        final int[] far;
        final int[] toursLeft;

        Ways(Cave cave) {
            this.cave = cave;
            far = new int[CAVERNS * CAVERNS];
            toursLeft = new int[(ALL_CAVERNS + 1) * CAVERNS];
        }

        /** Works out how far all caverns are; the questions below build on it. */
        void measure() {
            for (int a = 0; a < CAVERNS; a++) {
                for (int b = 0; b < CAVERNS; b++) {
                    far[a * CAVERNS + b] = a == b ? 0 : FAR_OFF;
                }
            }
            for (int q = 0; q < cave.size; q++) {
                if (cave.isOpen(q)) {
                    shorten(cave.one[q], cave.other[q], cave.now.delay[q]);
                    shorten(cave.other[q], cave.one[q], cave.now.delay[q]);
                }
            }
            for (int by = 0; by < CAVERNS; by++) {
                for (int a = 0; a < CAVERNS; a++) {
                    for (int b = 0; b < CAVERNS; b++) {
                        shorten(a, b, farOf(a, by) + farOf(by, b));
                    }
                }
            }
        }

        private void shorten(int a, int b, int minutes) {
            far[a * CAVERNS + b] = Math.min(far[a * CAVERNS + b], minutes);
        }

        int farOf(int a, int b) {
            return far[a * CAVERNS + b];
        }

        int joinedTo(int cavern) {
            int bits = 0;
            for (int c = 0; c < CAVERNS; c++) {
                if (farOf(cavern, c) < FAR_OFF) {
                    bits |= 1 << c;
                }
            }
            return bits;
        }

        int farthestOf(int cavern) {
            int most = 0;
            for (int c = 0; c < CAVERNS; c++) {
                if (farOf(cavern, c) < FAR_OFF) {
                    most = Math.max(most, farOf(cavern, c));
                }
            }
            return most;
        }

        int laterOf(int a, int b, int meeting) {
            return Math.max(farOf(a, meeting), farOf(b, meeting));
        }

        /** The least passage with which a quickest way begins; NONE if there is no way. */
        int firstStep(int from, int to) {
            for (int q = 0; q < cave.size; q++) {
                if (cave.isOpen(q) && cave.isEnd(from, q)) {
                    int rest = farOf(cave.acrossFrom(from, q), to);
                    if (cave.now.delay[q] + rest == farOf(from, to)) {
                        return q;
                    }
                }
            }
            return NONE;
        }

        /** Caverns that can be come to from one by these passages alone. */
        private int reached(int cavern, int passages) {
            int bits = 1 << cavern;
            int before = 0;
            for (int i = 0; i < CAVERNS && bits != before; i++) {
                before = bits;
                for (int q = 0; q < cave.size; q++) {
                    if ((passages >> q & 1) == 1 && (bits & cave.endsOf(q)) != 0) {
                        bits |= cave.endsOf(q);
                    }
                }
            }
            return bits;
        }

        boolean joinsEnds(int passages, int passage) {
            return (reached(cave.one[passage], passages) >> cave.other[passage] & 1) == 1;
        }

        int heapsOf(int caverns) {
            int left = caverns;
            int heaps = 0;
            for (int c = 0; c < CAVERNS; c++) {
                if ((left >> c & 1) == 1) {
                    left &= ~reached(c, cave.now.open);
                    heaps++;
                }
            }
            return heaps;
        }

        /** For each cavern and each part of some, the minutes of a way through that part and home. */
        void planTours(int home, int some) {
            for (int due = 0; due <= some; due++) {
                if ((due & ~some) == 0) {
                    for (int at = 0; at < CAVERNS; at++) {
                        int c = nextOfTour(due, at);
                        toursLeft[due * CAVERNS + at] = c == NONE ? farOf(at, home) : minutesBy(due, at, c);
                    }
                }
            }
        }

        int minutesLeft(int due, int at) {
            return toursLeft[due * CAVERNS + at];
        }

        private int minutesBy(int due, int at, int c) {
            return farOf(at, c) + minutesLeft(due & ~(1 << c), c);
        }

        /** Of the caverns that are due the one to go to first; NONE without any. */
        int nextOfTour(int due, int at) {
            int best = NONE;
            for (int c = 0; c < CAVERNS; c++) {
                boolean isDue = (due >> c & 1) == 1;
                if (isDue && (best == NONE || minutesBy(due, at, c) < minutesBy(due, at, best))) {
                    best = c;
                }
            }
            return best;
        }

        /** The caverns on the side of the first one of their heap; NONE if there are no two sides. */
        int firstHalf() {
            int entered = cave.enteredCaverns();
            int near = 0;
            int away = 0;
            for (int c = 0; c < CAVERNS; c++) {
                if (((entered & ~near & ~away) >> c & 1) == 1) {
                    near |= 1 << c;
                    for (int i = 0; i < CAVERNS; i++) {
                        away |= acrossOf(near);
                        near |= acrossOf(away);
                    }
                }
            }
            return (near & away) == 0 ? near : NONE;
        }

        private int acrossOf(int caverns) {
            int bits = 0;
            for (int q = 0; q < cave.size; q++) {
                if (cave.isOpen(q)) {
                    bits |= (caverns >> cave.one[q] & 1) << cave.other[q];
                    bits |= (caverns >> cave.other[q] & 1) << cave.one[q];
                }
            }
            return bits;
        }

        boolean guarded(int caverns) {
            for (int q = 0; q < cave.size; q++) {
                if (cave.isOpen(q) && (caverns & cave.endsOf(q)) == 0) {
                    return false;
                }
            }
            return true;
        }

        /**
         * The better of best and what can be made of taken with passages up to this one. The highest
         * passage is left out before it is taken, so that the least bits of as many come first.
         */
        private static int mostApart(Cave cave, int passage, int used, int taken, int best) {
            if (passage < 0 || passage >= MOST_PASSAGES) {
                return Integer.bitCount(taken) > Integer.bitCount(best) ? taken : best;
            }
            int better = mostApart(cave, passage - 1, used, taken, best);
            int ends = cave.endsOf(passage);
            if (cave.isOpen(passage) && (used & ends) == 0) {
                better = mostApart(cave, passage - 1, used | ends, taken | 1 << passage, better);
            }
            return better;
        }
    }

    /** The ROW. */
    private static final class Row {
        static final int MOST_NUMBERS = 16;

        private final long[] all;
        int size;

        Row() {
            all = new long[MOST_NUMBERS];
            size = 0;
        }

        void begin() {
            size = 0;
        }

        void put(long number) {
            if (size < MOST_NUMBERS) {
                all[size] = number;
                size++;
            }
        }

        long at(int i) {
            return i >= 0 && i < size ? all[i] : 0;
        }
    }

    /** What was told of a passage. */
    private static final class Clues {
        static final int MOST_CLUES = 12;

        final Cave cave;
        final int[] whats;
        final int[] values;
        int size;

        Clues(Cave cave) {
            this.cave = cave;
            whats = new int[MOST_CLUES];
            values = new int[MOST_CLUES];
            size = 0;
        }

        boolean add(int what, int v) {
            int least = what == 0 ? 1 : 0;
            int most = what == 1 ? CAVERNS - 1 : what == 3 ? 1 : 9;
            if (what < 0 || what > 4 || v < least || v > most || size >= MOST_CLUES) {
                return false;
            }
            whats[size] = what;
            values[size] = v;
            size++;
            return true;
        }

        int fittingPassages() {
            int bits = 0;
            for (int q = 0; q < cave.size; q++) {
                if (fitsAll(q)) {
                    bits |= 1 << q;
                }
            }
            return bits;
        }

        private boolean fitsAll(int passage) {
            for (int i = 0; i < size; i++) {
                if (!agrees(passage, whats[i], values[i])) {
                    return false;
                }
            }
            return true;
        }

        private boolean agrees(int passage, int what, int v) {
            switch (what) {
                case 0:
                    return cave.now.delay[passage] >= v;
                case 1:
                    return cave.isEnd(v, passage);
                case 2:
                    return cave.now.bend[passage] == v;
                case 3:
                    return cave.isOpen(passage) == (v == 1);
                default:
                    return cave.now.wear[passage] <= v;
            }
        }
    }

    /** What was heard of letters, and the laws that fit it. */
    private static final class Hearings {
        static final int MOST_HEARD = 10;
        static final int LAWS = 64;

        final int[] letters;
        final int[] bends;
        final int[] results;
        int size;
        final int[] fitting;
        int fittingSize;
        final int[] times;

        Hearings() {
            letters = new int[MOST_HEARD];
            bends = new int[MOST_HEARD];
            results = new int[MOST_HEARD];
            size = 0;
            fitting = new int[LAWS];
            fittingSize = 0;
            times = new int[LETTERS];
        }

        boolean add(int v, int b, int w) {
            boolean isBend = b >= 0 && b <= MOST_BENDS;
            if (!isLetter(v) || !isBend || !isLetter(w) || size >= MOST_HEARD) {
                return false;
            }
            letters[size] = v;
            bends[size] = b;
            results[size] = w;
            size++;
            return true;
        }

        /** A law is told by 8 times its a and its b, so that the least one comes first. */
        private static int becomesBy(int law, int v, int b) {
            return (law / LETTERS * v + law % LETTERS * b) % LETTERS;
        }

        void findFitting() {
            fittingSize = 0;
            for (int law = 0; law < LAWS; law++) {
                if (fitsHeard(law)) {
                    fitting[fittingSize] = law;
                    fittingSize++;
                }
            }
        }

        private boolean fitsHeard(int law) {
            for (int i = 0; i < size; i++) {
                if (becomesBy(law, letters[i], bends[i]) != results[i]) {
                    return false;
                }
            }
            return true;
        }

        /** How many of the fitting laws are left at most, once it is heard what v by b becomes. */
        int mostLeft(int v, int b) {
            for (int w = 0; w < LETTERS; w++) {
                times[w] = 0;
            }
            int most = 0;
            for (int i = 0; i < fittingSize; i++) {
                int w = becomesBy(fitting[i], v, b);
                times[w]++;
                most = Math.max(most, times[w]);
            }
            return most;
        }
    }
}
