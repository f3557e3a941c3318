import java.math.BigInteger;
import java.util.ArrayList;
import java.util.Arrays;
import java.util.Collections;
import java.util.List;
import java.util.NoSuchElementException;
import java.util.TreeMap;
import java.util.TreeSet;
import java.util.regex.Matcher;
import java.util.regex.Pattern;

/**
 * The document once more, by trying all that there is and with the whole Java library: slow, and as
 * unlike CaveAdvice as can be, so that both hardly err alike.
 */
final class PlainCave {
    static final class Passage implements Cloneable {
        int one;
        int other;
        int delay;
        int bend;
        int wear;
        boolean open = true;

        Passage copy() {
            Passage p = new Passage();
            p.one = one;
            p.other = other;
            p.delay = delay;
            p.bend = bend;
            p.wear = wear;
            p.open = open;
            return p;
        }

        boolean ends(int cavern) {
            return one == cavern || other == cavern;
        }
    }

    static final class Fault extends Exception {
        private static final long serialVersionUID = 1L;
        final int at;

        Fault(int at) {
            this.at = at;
        }
    }

    static final class Memory {
        List<Passage> cave = new ArrayList<>();
        int hour;
        int called;
    }

    static final class Path {
        int from;
        int end;
        int minutes;
        List<Integer> by = new ArrayList<>();
        List<Boolean> back = new ArrayList<>();
    }

    private static final Pattern LINES = Pattern.compile(line() + "(;" + line() + ")*");
    private static final Pattern SEASON = Pattern.compile("(n[0-9]|s[0-9][0-9][a-h]{1,6}|x[0-9]|m[0-9]{3})*");
    private static final Pattern CALL = Pattern.compile("[a-h]{1,6}");

    private String text = "";
    private String rule = "";
    private Memory now = new Memory();
    private final List<Memory> undone = new ArrayList<>();
    private final Memory[] kept = new Memory[3];
    private List<Long> row = new ArrayList<>();
    private final List<int[]> clues = new ArrayList<>();
    private final List<int[]> hearings = new ArrayList<>();
    private int drawn;

    private static String line() {
        List<String> ends = new ArrayList<>();
        for (int one = 0; one < 8; one++) {
            for (int other = 0; other < 8; other++) {
                if (one != other) {
                    ends.add("" + one + other);
                }
            }
        }
        return "(" + String.join("|", ends) + ")[1-9][0-9]";
    }

    private static Memory copyOf(Memory m) {
        Memory copy = new Memory();
        for (Passage p : m.cave) {
            copy.cave.add(p.copy());
        }
        copy.hour = m.hour;
        copy.called = m.called;
        return copy;
    }

    private void tell(long... numbers) {
        row = new ArrayList<>();
        for (long n : numbers) {
            row.add(n);
        }
    }

    private String takeText() {
        String taken = text;
        text = "";
        return taken;
    }

    /** Throws where no text of the pattern begins so. */
    private static void match(Pattern pattern, String s, int limit) throws Fault {
        String shown = s.length() > limit ? s.substring(0, limit) : s;
        for (int p = 1; p <= shown.length(); p++) {
            Matcher m = pattern.matcher(shown.substring(0, p));
            if (!m.matches() && !m.hitEnd()) {
                throw new Fault(p - 1);
            }
        }
        if (s.length() > limit) {
            throw new Fault(limit);
        }
        if (!pattern.matcher(s).matches()) {
            throw new Fault(s.length());
        }
    }

    int sign(int v) {
        if (text.length() > 76) {
            return -1;
        }
        for (byte b : BigInteger.valueOf(v & 0xffffffffL | 1L << 32).toByteArray()) {
            text += (char) (b & 255);
        }
        // The byte of the 1 that kept the leading zeros stands ahead of the four.
        text = text.substring(0, text.length() - 5) + text.substring(text.length() - 4);
        return text.length();
    }

    boolean end(int n) {
        if (n < 0 || n > text.length()) {
            return false;
        }
        text = text.substring(0, n);
        return true;
    }

    int passages() {
        String s = takeText();
        if (s.isEmpty()) {
            return 0;
        }
        int room = 5 * (12 - now.cave.size());
        int fault = s.length() > room && room < 59 ? room : 99;
        try {
            match(LINES, s, 59);
        } catch (Fault f) {
            fault = Math.min(fault, f.at);
        }
        if (fault != 99) {
            return -1 - fault;
        }
        String[] lines = s.split(";");
        for (String line : lines) {
            Passage p = new Passage();
            p.one = line.charAt(0) - '0';
            p.other = line.charAt(1) - '0';
            p.delay = line.charAt(2) - '0';
            p.bend = line.charAt(3) - '0';
            now.cave.add(p);
        }
        undone.clear();
        Arrays.fill(kept, null);
        return lines.length;
    }

    // ---- a rule, read by going down

    private String source;
    private int at;
    private int limit;
    private int[] things;

    private char peek() {
        return at < limit ? source.charAt(at) : '\0';
    }

    private boolean sees(String signs) {
        return at < limit && signs.indexOf(source.charAt(at)) >= 0;
    }

    private int expression(int depth) throws Fault {
        int left = sum(depth);
        if (!sees("<>=")) {
            return left;
        }
        char c = peek();
        at++;
        int right = sum(depth);
        boolean holds = c == '<' ? left < right : c == '>' ? left > right : left == right;
        return holds ? 1 : 0;
    }

    private int sum(int depth) throws Fault {
        int value = product(depth);
        while (sees("+-")) {
            char c = peek();
            at++;
            int right = product(depth);
            value = c == '+' ? value + right : value - right;
        }
        return value;
    }

    private int product(int depth) throws Fault {
        int value = signed(depth);
        while (sees("*/")) {
            char c = peek();
            at++;
            int right = signed(depth);
            value = c == '*' ? value * right : right == 0 ? 0 : value / right;
        }
        return value;
    }

    private int signed(int depth) throws Fault {
        if (sees("-")) {
            at++;
            return -signed(depth);
        }
        return thing(depth);
    }

    private int thing(int depth) throws Fault {
        if (sees("vbwdpne")) {
            int value = things["vbwdpne".indexOf(peek())];
            at++;
            return value;
        }
        if (sees("0123456789")) {
            int from = at;
            while (sees("0123456789") && at - from < 3) {
                at++;
            }
            return Integer.parseInt(source.substring(from, at));
        }
        if (!sees("(") || depth == 4) {
            throw new Fault(at);
        }
        at++;
        int value = expression(depth + 1);
        if (!sees(")")) {
            throw new Fault(at);
        }
        at++;
        return value;
    }

    private int valueOf(String s, int... told) throws Fault {
        source = s.isEmpty() ? "v+b-w/3" : s;
        things = told;
        at = 0;
        limit = Math.min(40, source.length());
        int value = expression(0);
        if (at < limit || source.length() > 40) {
            throw new Fault(at);
        }
        return Math.floorMod(value, 8);
    }

    int rule() {
        String s = takeText();
        try {
            valueOf(s, 0, 0, 0, 0, 0, 0, 0);
        } catch (Fault f) {
            return -1 - f.at;
        }
        rule = s;
        return 0;
    }

    int passage(int passage, int what) {
        if (passage < 0 || passage >= now.cave.size()) {
            throw new NoSuchElementException();
        }
        Passage p = now.cave.get(passage);
        int[] all = {p.one, p.other, p.delay, p.bend, p.wear, p.open ? 1 : 0};
        if (what < 0 || what >= all.length) {
            throw new NoSuchElementException();
        }
        return all[what];
    }

    int cavern(int cavern, int what) {
        if (cavern < 0 || cavern > 7 || what < 0 || what > 2) {
            throw new NoSuchElementException();
        }
        int open = 0;
        for (int q = 0; q < now.cave.size(); q++) {
            if (now.cave.get(q).open && now.cave.get(q).ends(cavern)) {
                open += 1 << q;
            }
        }
        TreeMap<Integer, Integer> far = farFrom(cavern);
        int joined = 0;
        for (int c : far.keySet()) {
            joined += 1 << c;
        }
        return what == 0 ? open : what == 1 ? joined : Collections.max(far.values());
    }

    int sheet(int kind, int n, int f, int step) {
        if (kind < 0 || kind > 3 || n > 12) {
            return -1;
        }
        if (kind < 3 && n < 0) {
            return -2;
        }
        for (Passage p : now.cave) {
            p.wear = 0;
        }
        if (kind == 3) {
            return -3;
        }
        for (int i = 0; i < n && i < now.cave.size(); i++) {
            int entry = f + i * step;
            if (kind == 0) {
                entry = (byte) entry;
            }
            if (kind == 1) {
                entry = (short) entry;
            }
            now.cave.get(i).wear = entry < 0 ? 0 : entry > 9 ? 9 : entry;
        }
        return wear();
    }

    private int wear() {
        return now.cave.stream().mapToInt(p -> p.wear).sum();
    }

    private int open() {
        return (int) now.cave.stream().filter(p -> p.open).count();
    }

    // ---- calls, hours, digs

    private Path follow(int cavern, int passage) {
        if (passage < 0 || passage >= now.cave.size()) {
            return null;
        }
        if (!now.cave.get(passage).open || !now.cave.get(passage).ends(cavern)) {
            return null;
        }
        Path path = new Path();
        path.from = cavern;
        path.end = cavern;
        Integer q = passage;
        while (q != null) {
            Passage p = now.cave.get(q);
            boolean back = p.other == path.end;
            path.by.add(q);
            path.back.add(back);
            path.minutes += p.delay;
            path.end = back ? p.one : p.other;
            q = null;
            for (int r = now.cave.size() - 1; r >= 0 && path.end != cavern; r--) {
                if (now.cave.get(r).open && now.cave.get(r).ends(path.end) && !path.by.contains(r)) {
                    q = r;
                }
            }
        }
        return path;
    }

    private int change(String law, int passage, boolean back, int place, int letter) {
        Passage p = now.cave.get(passage);
        try {
            return valueOf(law, letter, p.bend, p.wear, p.delay, place, now.hour % 7, back ? 1 : 0);
        } catch (Fault f) {
            throw new IllegalStateException("a rule that was read: " + law);
        }
    }

    private int out(String law, Path path, int place, int letter) {
        int v = letter;
        for (int i = 0; i < path.by.size(); i++) {
            v = change(law, path.by.get(i), path.back.get(i), place, v);
        }
        return v;
    }

    private List<Integer> out(Path path, String call) {
        List<Integer> letters = new ArrayList<>();
        for (int place = 0; place < call.length(); place++) {
            letters.add(out(rule, path, place, call.charAt(place) - 'a'));
        }
        return letters;
    }

    private static int refusal(Path path, String call) {
        if (path == null) {
            return -100;
        }
        try {
            match(CALL, call, 80);
        } catch (Fault f) {
            return -1 - f.at;
        }
        return 0;
    }

    private int call(Path path, String call) {
        int refusal = refusal(path, call);
        if (refusal != 0) {
            return refusal;
        }
        List<Integer> letters = out(path, call);
        tell(path.minutes);
        letters.forEach(v -> row.add((long) v));
        wearBy(path);
        return path.end;
    }

    private void wearBy(Path path) {
        for (int q : path.by) {
            now.cave.get(q).wear = Math.min(9, now.cave.get(q).wear + 1);
        }
        now.called = Math.min(999, now.called + 1);
    }

    private void remember(Memory before) {
        undone.add(before);
        if (undone.size() > 15) {
            undone.remove(0);
        }
    }

    int calls(int cavern, int passage) {
        Memory before = copyOf(now);
        int answer = call(follow(cavern, passage), takeText());
        if (answer >= 0) {
            remember(before);
        }
        return answer;
    }

    private int pass(int n) {
        if (n < 0 || n > 60) {
            return -1;
        }
        now.hour += n;
        now.cave.forEach(p -> p.wear = Math.max(0, p.wear - n));
        return wear();
    }

    int hours(int n) {
        Memory before = copyOf(now);
        int answer = pass(n);
        if (answer >= 0) {
            remember(before);
        }
        return answer;
    }

    private int turn(int passage) {
        if (passage < 0 || passage >= now.cave.size()) {
            return -1;
        }
        now.cave.get(passage).open = !now.cave.get(passage).open;
        return open();
    }

    int falls(int passage) {
        Memory before = copyOf(now);
        int answer = turn(passage);
        if (answer >= 0) {
            remember(before);
        }
        return answer;
    }

    private int dig(int passage, int d, int b) {
        if (passage < 0 || passage >= now.cave.size() || d < 1 || d > 9 || b < 0 || b > 9) {
            return -1;
        }
        Passage p = now.cave.get(passage);
        if (p.delay == d && p.bend == b) {
            return -2;
        }
        int answer = 100 + 10 * p.delay + p.bend;
        p.delay = d;
        p.bend = b;
        return answer;
    }

    int digs(int passage, int d, int b) {
        Memory before = copyOf(now);
        int answer = dig(passage, d, b);
        if (answer >= 0) {
            remember(before);
        }
        return answer;
    }

    int season() {
        String s = takeText();
        try {
            match(SEASON, s, 60);
        } catch (Fault f) {
            return -1 - f.at;
        }
        Memory before = copyOf(now);
        int done = 0;
        boolean refused = false;
        for (String act : s.split("(?=[nsxm])")) {
            if (act.isEmpty() || refused) {
                continue;
            }
            refused = act(act) < 0;
            done += refused ? 0 : 1;
        }
        if (done > 0) {
            remember(before);
        }
        tell(refused ? 1 : 0, now.called);
        return done;
    }

    private int act(String act) {
        int first = act.charAt(1) - '0';
        switch (act.charAt(0)) {
            case 'n':
                return pass(first);
            case 'x':
                return turn(first);
            case 'm':
                return dig(first, act.charAt(2) - '0', act.charAt(3) - '0');
            default:
                return call(follow(first, act.charAt(2) - '0'), act.substring(3));
        }
    }

    int undo() {
        if (undone.isEmpty()) {
            return -1;
        }
        now = undone.remove(undone.size() - 1);
        return undone.size();
    }

    // ---- what comes out

    int route(int cavern, int passage) {
        Path path = follow(cavern, passage);
        if (path == null) {
            return -1;
        }
        tell(path.minutes);
        path.by.forEach(q -> row.add((long) q));
        return path.end;
    }

    int hears(int cavern, int passage) {
        String s = takeText();
        Path path = follow(cavern, passage);
        int refusal = refusal(path, s);
        if (refusal != 0) {
            return refusal;
        }
        List<Integer> letters = out(path, s);
        tell();
        letters.forEach(v -> row.add((long) v));
        int same = 0;
        for (int i = 0; i < s.length(); i++) {
            same += s.charAt(i) - 'a' == letters.get(i) ? 1 : 0;
        }
        return same;
    }

    private int[][] table(Path path) {
        int[][] table = new int[6][8];
        for (int place = 0; place < 6; place++) {
            for (int v = 0; v < 8; v++) {
                table[place][v] = out(rule, path, place, v);
            }
        }
        return table;
    }

    /** All calls of so many letters, told as numbers of as many digits by 8, and what comes out. */
    private static int[] allOut(int[][] table, int letters) {
        int[] out = new int[1 << 3 * letters];
        for (int call = 0; call < out.length; call++) {
            for (int place = 0; place < letters; place++) {
                int shift = 3 * (letters - 1 - place);
                out[call] |= table[place][call >> shift & 7] << shift;
            }
        }
        return out;
    }

    int asks(int cavern, int passage) {
        String s = takeText();
        Path path = follow(cavern, passage);
        int refusal = refusal(path, s);
        if (refusal != 0) {
            return refusal;
        }
        int advice = 0;
        for (char c : s.toCharArray()) {
            advice = advice * 8 + c - 'a';
        }
        int[] out = allOut(table(path), s.length());
        int many = 0;
        tell();
        for (int call = 0; call < out.length; call++) {
            if (out[call] == advice) {
                for (int place = 0; place < s.length() && many == 0; place++) {
                    row.add((long) (call >> 3 * (s.length() - 1 - place) & 7));
                }
                many++;
            }
        }
        return many;
    }

    int becomes() {
        String s = takeText();
        List<String> forms = new ArrayList<>();
        for (int n = 1; n <= 6; n++) {
            forms.add("[a-h]{" + n + "};[a-h]{" + n + "}");
        }
        try {
            match(Pattern.compile(String.join("|", forms)), s, 80);
        } catch (Fault f) {
            return -1 - f.at;
        }
        String[] both = s.split(";");
        int pairs = 0;
        List<Long> least = new ArrayList<>();
        for (int c = 7; c >= 0; c--) {
            for (int q = now.cave.size() - 1; q >= 0; q--) {
                Path path = follow(c, q);
                if (path == null) {
                    continue;
                }
                StringBuilder out = new StringBuilder();
                out(path, both[0]).forEach(v -> out.append((char) ('a' + v)));
                if (out.toString().equals(both[1])) {
                    pairs++;
                    least = List.of((long) c, (long) q);
                }
            }
        }
        row = new ArrayList<>(least);
        return pairs;
    }

    int keeps(int cavern, int passage) {
        Path path = follow(cavern, passage);
        if (path == null) {
            return -1;
        }
        int[][] table = table(path);
        tell();
        int all = 0;
        for (int[] place : table) {
            long same = 0;
            for (int v = 0; v < 8; v++) {
                same += place[v] == v ? 1 : 0;
            }
            row.add(same);
            all += (int) same;
        }
        return all;
    }

    int apart(int cavern, int passage, int n) {
        Path path = follow(cavern, passage);
        if (path == null || n < 1 || n > 6) {
            return -1;
        }
        int[] times = new int[1 << 3 * n];
        for (int out : allOut(table(path), n)) {
            times[out]++;
        }
        tell(Arrays.stream(times).max().getAsInt());
        return (int) Arrays.stream(times).filter(t -> t > 0).count();
    }

    int longest(int cavern) {
        if (cavern < 0 || cavern > 7) {
            return -1;
        }
        Path best = null;
        for (int q = 0; q < now.cave.size(); q++) {
            Path path = follow(cavern, q);
            if (path != null && (best == null || path.minutes > best.minutes)) {
                best = path;
            }
        }
        if (best == null) {
            return -2;
        }
        tell(best.minutes, best.end);
        return best.by.get(0);
    }

    private List<Path> echoes() {
        List<Path> all = new ArrayList<>();
        for (int c = 0; c < 8; c++) {
            for (int q = 0; q < now.cave.size(); q++) {
                Path path = follow(c, q);
                if (path != null) {
                    all.add(path);
                }
            }
        }
        return all;
    }

    int rounds() {
        List<Path> all = echoes();
        tell(all.size(), all.stream().filter(p -> p.end == p.from).count());
        return all.stream().filter(p -> p.end == p.from).mapToInt(p -> 1 << p.from).reduce(0, (a, b) -> a | b);
    }

    // ---- ways

    /** All ways that come to no cavern twice, by what they take and then by their passages. */
    private void walk(int cavern, int to, int seen, Path soFar, List<Path> all) {
        if (cavern == to) {
            Path path = new Path();
            path.minutes = soFar.minutes;
            path.by = new ArrayList<>(soFar.by);
            all.add(path);
            return;
        }
        for (int q = 0; q < now.cave.size(); q++) {
            Passage p = now.cave.get(q);
            if (p.open && p.ends(cavern)) {
                int next = p.one == cavern ? p.other : p.one;
                if ((seen >> next & 1) == 0) {
                    soFar.minutes += p.delay;
                    soFar.by.add(q);
                    walk(next, to, seen | 1 << next, soFar, all);
                    soFar.by.remove(soFar.by.size() - 1);
                    soFar.minutes -= p.delay;
                }
            }
        }
    }

    private static int compare(List<Integer> a, List<Integer> b) {
        for (int i = 0; i < Math.min(a.size(), b.size()); i++) {
            if (!a.get(i).equals(b.get(i))) {
                return a.get(i) - b.get(i);
            }
        }
        return a.size() - b.size();
    }

    private Path quickest(int from, int to) {
        List<Path> all = new ArrayList<>();
        walk(from, to, 1 << from, new Path(), all);
        all.sort((a, b) -> a.minutes != b.minutes ? a.minutes - b.minutes : compare(a.by, b.by));
        return all.isEmpty() ? null : all.get(0);
    }

    private TreeMap<Integer, Integer> farFrom(int cavern) {
        TreeMap<Integer, Integer> far = new TreeMap<>();
        for (int c = 0; c < 8; c++) {
            Path path = quickest(cavern, c);
            if (path != null) {
                far.put(c, path.minutes);
            }
        }
        return far;
    }

    private static boolean noCavern(int c) {
        return c < 0 || c > 7;
    }

    int way(int from, int to) {
        if (noCavern(from) || noCavern(to)) {
            return -1;
        }
        Path path = quickest(from, to);
        if (path == null) {
            return -2;
        }
        tell();
        path.by.forEach(q -> row.add((long) q));
        return path.minutes;
    }

    int meets(int one, int other) {
        if (noCavern(one) || noCavern(other)) {
            return -1;
        }
        TreeMap<Integer, Integer> a = farFrom(one);
        TreeMap<Integer, Integer> b = farFrom(other);
        if (!a.containsKey(other)) {
            return -2;
        }
        int best = -1;
        for (int c : a.keySet()) {
            if (best < 0 || Math.max(a.get(c), b.get(c)) < Math.max(a.get(best), b.get(best))) {
                best = c;
            }
        }
        tell(a.get(best), b.get(best));
        return best;
    }

    int heart() {
        if (open() == 0) {
            return -2;
        }
        int most = 0;
        for (int c = 0; c < 8; c++) {
            most = Math.max(most, farFrom(c).size());
        }
        int best = -1;
        int least = Integer.MAX_VALUE;
        for (int c = 0; c < 8; c++) {
            TreeMap<Integer, Integer> far = farFrom(c);
            int farthest = Collections.max(far.values());
            if (far.size() == most && farthest < least) {
                best = c;
                least = farthest;
            }
        }
        tell(least, most);
        return best;
    }

    private static int find(int[] heap, int c) {
        return heap[c] == c ? c : find(heap, heap[c]);
    }

    int ropes() {
        List<Integer> order = new ArrayList<>();
        for (int q = 0; q < now.cave.size(); q++) {
            if (now.cave.get(q).open) {
                order.add(q);
            }
        }
        order.sort((a, b) -> now.cave.get(a).delay - now.cave.get(b).delay);
        int[] heap = {0, 1, 2, 3, 4, 5, 6, 7};
        int minutes = 0;
        int laid = 0;
        int many = 0;
        for (int q : order) {
            int a = find(heap, now.cave.get(q).one);
            int b = find(heap, now.cave.get(q).other);
            if (a != b) {
                heap[a] = b;
                minutes += now.cave.get(q).delay;
                laid |= 1 << q;
                many++;
            }
        }
        tell(laid, many);
        return minutes;
    }

    private TreeSet<Integer> entered() {
        TreeSet<Integer> caverns = new TreeSet<>();
        for (Passage p : now.cave) {
            if (p.open) {
                caverns.add(p.one);
                caverns.add(p.other);
            }
        }
        return caverns;
    }

    int needed() {
        int needed = 0;
        for (int q = 0; q < now.cave.size(); q++) {
            Passage p = now.cave.get(q);
            if (p.open) {
                p.open = false;
                needed |= quickest(p.one, p.other) == null ? 1 << q : 0;
                p.open = true;
            }
        }
        TreeSet<TreeSet<Integer>> heaps = new TreeSet<>((a, b) -> a.first() - b.first());
        for (int c : entered()) {
            heaps.add(new TreeSet<>(farFrom(c).keySet()));
        }
        tell(Integer.bitCount(needed), entered().size(), heaps.size());
        return needed;
    }

    private void orders(List<Integer> left, List<Integer> soFar, List<List<Integer>> all) {
        if (left.isEmpty()) {
            all.add(new ArrayList<>(soFar));
        }
        for (Integer c : left) {
            List<Integer> rest = new ArrayList<>(left);
            rest.remove(c);
            soFar.add(c);
            orders(rest, soFar, all);
            soFar.remove(soFar.size() - 1);
        }
    }

    int tour(int cavern, int some) {
        if (noCavern(cavern) || some < 0 || some > 255) {
            return -1;
        }
        int[][] far = new int[8][8];
        for (int a = 0; a < 8; a++) {
            for (int b = 0; b < 8; b++) {
                far[a][b] = farFrom(a).getOrDefault(b, 9999);
            }
        }
        List<Integer> left = new ArrayList<>();
        for (int c = 0; c < 8; c++) {
            if ((some >> c & 1) == 1 && c != cavern) {
                if (far[cavern][c] == 9999) {
                    return -2;
                }
                left.add(c);
            }
        }
        List<List<Integer>> all = new ArrayList<>();
        orders(left, new ArrayList<>(), all);
        int least = Integer.MAX_VALUE;
        List<Integer> best = null;
        for (List<Integer> order : all) {
            int minutes = 0;
            int at = cavern;
            for (int c : order) {
                minutes += far[at][c];
                at = c;
            }
            minutes += far[at][cavern];
            if (minutes < least || minutes == least && compare(order, best) < 0) {
                least = minutes;
                best = order;
            }
        }
        tell();
        best.forEach(c -> row.add((long) c));
        return least;
    }

    int halves() {
        TreeSet<Integer> firsts = new TreeSet<>();
        for (int c : entered()) {
            firsts.add(farFrom(c).firstKey());
        }
        int all = entered().stream().mapToInt(c -> 1 << c).sum();
        for (int part = 0; part < 256; part++) {
            final int half = part;
            boolean parts = (half & ~all) == 0 && firsts.stream().allMatch(c -> (half >> c & 1) == 1)
                && now.cave.stream().filter(p -> p.open).allMatch(p -> (half >> p.one & 1) != (half >> p.other & 1));
            if (parts) {
                tell(half);
                return 1;
            }
        }
        tell();
        return 0;
    }

    int guides() {
        for (int many = 0; many <= 8; many++) {
            for (int stand = 0; stand < 256; stand++) {
                final int bits = stand;
                if (Integer.bitCount(bits) == many && now.cave.stream().filter(p -> p.open)
                        .allMatch(p -> (bits >> p.one & 1) == 1 || (bits >> p.other & 1) == 1)) {
                    tell(bits);
                    return many;
                }
            }
        }
        throw new IllegalStateException();
    }

    int most() {
        int best = 0;
        for (int bits = 0; bits < 1 << now.cave.size(); bits++) {
            List<Integer> ends = new ArrayList<>();
            boolean open = true;
            for (int q = 0; q < now.cave.size(); q++) {
                if ((bits >> q & 1) == 1) {
                    open &= now.cave.get(q).open;
                    ends.add(now.cave.get(q).one);
                    ends.add(now.cave.get(q).other);
                }
            }
            if (open && new TreeSet<>(ends).size() == ends.size()
                    && Integer.bitCount(bits) > Integer.bitCount(best)) {
                best = bits;
            }
        }
        tell(best);
        return Integer.bitCount(best);
    }

    // ---- which passage it was, laws of change

    int told(int what, int v) {
        int[] least = {1, 0, 0, 0, 0};
        int[] most = {9, 7, 9, 1, 9};
        if (what < 0 || what > 4 || v < least[what] || v > most[what] || clues.size() == 12) {
            return -1;
        }
        clues.add(new int[] {what, v});
        return clues.size();
    }

    int forget() {
        int were = clues.size();
        clues.clear();
        return were;
    }

    private List<Integer> fitting() {
        List<Integer> fitting = new ArrayList<>();
        for (int q = 0; q < now.cave.size(); q++) {
            Passage p = now.cave.get(q);
            boolean fits = true;
            for (int[] clue : clues) {
                int v = clue[1];
                boolean[] agrees = {p.delay >= v, p.ends(v), p.bend == v, (p.open ? 1 : 0) == v, p.wear <= v};
                fits &= agrees[clue[0]];
            }
            if (fits) {
                fitting.add(q);
            }
        }
        return fitting;
    }

    int fits() {
        tell(fitting().size());
        return fitting().stream().mapToInt(q -> 1 << q).sum();
    }

    int next() {
        List<Integer> fitting = fitting();
        if (fitting.isEmpty()) {
            return -2;
        }
        int best = -1;
        int fewest = 99;
        for (int c = 0; c < 8; c++) {
            final int cavern = c;
            int ends = (int) fitting.stream().filter(q -> now.cave.get(q).ends(cavern)).count();
            int left = Math.max(ends, fitting.size() - ends);
            if (left < fewest) {
                fewest = left;
                best = c;
            }
        }
        tell(fewest);
        return best;
    }

    int heard(int v, int b, int w) {
        if (v < 0 || v > 7 || b < 0 || b > 9 || w < 0 || w > 7 || hearings.size() == 10) {
            return -1;
        }
        hearings.add(new int[] {v, b, w});
        return hearings.size();
    }

    int denied() {
        int were = hearings.size();
        hearings.clear();
        return were;
    }

    private List<int[]> lawsThatFit() {
        List<int[]> laws = new ArrayList<>();
        for (int a = 0; a < 8; a++) {
            for (int b = 0; b < 8; b++) {
                final int x = a;
                final int y = b;
                if (hearings.stream().allMatch(h -> (x * h[0] + y * h[1]) % 8 == h[2])) {
                    laws.add(new int[] {a, b});
                }
            }
        }
        return laws;
    }

    int laws() {
        List<int[]> laws = lawsThatFit();
        tell();
        if (!laws.isEmpty()) {
            tell(laws.get(0)[0], laws.get(0)[1]);
        }
        return laws.size();
    }

    int listens() {
        List<int[]> laws = lawsThatFit();
        if (laws.isEmpty()) {
            return -2;
        }
        int best = -1;
        int fewest = 99;
        for (int ask = 0; ask < 80; ask++) {
            TreeMap<Integer, Integer> left = new TreeMap<>();
            for (int[] law : laws) {
                left.merge((law[0] * (ask / 10) + law[1] * (ask % 10)) % 8, 1, Integer::sum);
            }
            int most = Collections.max(left.values());
            if (most < fewest) {
                fewest = most;
                best = ask;
            }
        }
        tell(fewest);
        return best;
    }

    // ---- hints, a game, laws, rests, years

    /** By all ways in which each passage leaves the letter or not. */
    private BigInteger times(Path path, int i, int v, int w, int p) {
        if (i == path.by.size()) {
            return v == w ? BigInteger.ONE : BigInteger.ZERO;
        }
        BigInteger left = times(path, i + 1, v, w, p).multiply(BigInteger.valueOf(p));
        int changed = change(rule, path.by.get(i), path.back.get(i), 0, v);
        return left.add(times(path, i + 1, changed, w, p).multiply(BigInteger.valueOf(10 - p)));
    }

    int hints(int cavern, int passage, int v, int w, int p) {
        Path path = follow(cavern, passage);
        if (path == null || v < 0 || v > 7 || w < 0 || w > 7 || p < 0 || p > 10) {
            return -1;
        }
        BigInteger part = times(path, 0, v, w, p);
        BigInteger whole = BigInteger.TEN.pow(path.by.size());
        BigInteger common = part.gcd(whole);
        tell(part.divide(common).longValueExact(), whole.divide(common).longValueExact());
        return 0;
    }

    private final TreeMap<Integer, Boolean> won = new TreeMap<>();

    /** Whether the one who asks now wins. */
    private boolean wins(int n, int k, int last) {
        int key = (n * 10 + k) * 10 + last;
        if (!won.containsKey(key)) {
            boolean canAsk = false;
            boolean wins = false;
            for (int m = 1; m <= Math.min(n, k); m++) {
                if (m != last) {
                    canAsk = true;
                    wins |= n - m > 0 && !wins(n - m, k, m);
                }
            }
            won.put(key, wins || !canAsk);
        }
        return won.get(key);
    }

    int game(int n, int k) {
        if (n < 0 || n > 60 || k < 2 || k > 9) {
            return -1;
        }
        for (int m = 1; m <= Math.min(n, k); m++) {
            if (n - m > 0 && !wins(n - m, k, m)) {
                return m;
            }
        }
        return 0;
    }

    private int keptBy(String law) {
        int same = 0;
        for (Path path : echoes()) {
            for (int v = 0; v < 8; v++) {
                same += out(law, path, 0, v) == v ? 1 : 0;
            }
        }
        return same;
    }

    int law() {
        String s = takeText();
        try {
            valueOf(s, 0, 0, 0, 0, 0, 0, 0);
        } catch (Fault f) {
            return -10000 - f.at;
        }
        int byIt = keptBy(s);
        int byRule = keptBy(rule);
        tell(byIt, byRule);
        return byIt - byRule;
    }

    int rests(int v) {
        if (v < 0 || v > 20) {
            return -1;
        }
        int[][] gain = new int[10][10];
        for (int x = 0; x < 10; x++) {
            for (int y = 0; y < 10; y++) {
                int full = x + v / 4;
                gain[x][y] = x < y ? full : x > y ? -1 : full / 2;
            }
        }
        int pairs = 0;
        tell();
        for (int x = 0; x < 10; x++) {
            for (int y = 0; y < 10; y++) {
                boolean rest = true;
                for (int z = 0; z < 10; z++) {
                    rest &= gain[z][y] <= gain[x][y] && gain[z][x] <= gain[y][x];
                }
                if (rest && pairs == 0) {
                    tell(x, y);
                }
                pairs += rest ? 1 : 0;
            }
        }
        return pairs;
    }

    private int draw(int n) {
        drawn = (int) (drawn * 1103515245L + 12345L);
        return (int) ((drawn & 0xffffffffL) / 65536 % n);
    }

    int years(int seed, int n) {
        if (n < 1 || n > 60) {
            return -1;
        }
        Memory ahead = copyOf(now);
        drawn = seed;
        int echoes = 0;
        for (int i = 0; i < n; i++) {
            int kind = draw(4);
            if (kind == 0) {
                pass(1);
            } else if (!now.cave.isEmpty() && kind == 3) {
                turn(draw(now.cave.size()));
            } else if (!now.cave.isEmpty()) {
                int cavern = draw(8);
                Path path = follow(cavern, draw(now.cave.size()));
                if (path != null) {
                    wearBy(path);
                    echoes++;
                }
            }
        }
        tell(open(), echoes);
        int wear = wear();
        now = ahead;
        return wear;
    }

    // ---- kept

    boolean keep(int i) {
        if (i < 0 || i > 2) {
            return false;
        }
        kept[i] = copyOf(now);
        return true;
    }

    boolean again(int i) {
        if (i < 0 || i > 2 || kept[i] == null) {
            return false;
        }
        now = copyOf(kept[i]);
        undone.clear();
        return true;
    }

    int count(int what) {
        int[] all = {now.cave.size(), open(), now.hour, now.called, wear(),
            now.cave.stream().mapToInt(p -> p.delay).sum(), clues.size(), hearings.size(),
            undone.size(), row.size(), text.length()};
        return what < 0 || what >= all.length ? -100 : all[what];
    }

    long row(int i) {
        if (i < 0 || i >= row.size()) {
            throw new NoSuchElementException();
        }
        return row.get(i);
    }
}
