import java.lang.reflect.InvocationTargetException;
import java.lang.reflect.Method;
import java.util.Arrays;
import java.util.HashMap;
import java.util.Map;
import java.util.NoSuchElementException;
import java.util.Random;

/** Long runs of calls by chance on CaveAdvice and on PlainCave: after each, both must be alike. */
public final class ReferenceTest {
    private static final int RUNS = 400;
    private static final int CALLS = 160;
    private static final long THROWN = Long.MIN_VALUE;
    private static final Map<String, Method> METHODS = new HashMap<>();

    private final Random random;
    private final CaveAdvice cave = new CaveAdvice();
    private final PlainCave plain = new PlainCave();
    private final StringBuilder told = new StringBuilder();
    private final boolean dense;

    private ReferenceTest(long seed) {
        random = new Random(seed);
        dense = random.nextBoolean();
    }

    public static void main(String[] args) throws Exception {
        for (Class<?> type : new Class<?>[] {CaveAdvice.class, PlainCave.class}) {
            for (Method m : type.getDeclaredMethods()) {
                METHODS.put(type.getName() + m.getName() + m.getParameterCount(), m);
            }
        }
        int runs = args.length > 0 ? Integer.parseInt(args[0]) : RUNS;
        int from = args.length > 1 ? Integer.parseInt(args[1]) : 0;
        for (int seed = from; seed < from + runs; seed++) {
            if (!new ReferenceTest(seed).run()) {
                System.out.println("seed " + seed);
                System.exit(1);
            }
        }
    }

    private boolean run() throws Exception {
        if (!put(lines(), "passages")) {
            return false;
        }
        for (int i = 0; i < CALLS; i++) {
            if (!anyCall() || !looksAlike()) {
                return false;
            }
        }
        return true;
    }

    private static long ask(Object of, String name, int... args) throws Exception {
        Method m = METHODS.get(of.getClass().getName() + name + args.length);
        Object[] all = new Object[args.length];
        for (int i = 0; i < args.length; i++) {
            all[i] = args[i];
        }
        try {
            Object answer = m.invoke(of, all);
            return answer instanceof Boolean b ? b ? 1 : 0 : ((Number) answer).longValue();
        } catch (InvocationTargetException e) {
            if (e.getCause() instanceof NoSuchElementException) {
                return THROWN;
            }
            throw e;
        }
    }

    private boolean both(String name, int... args) throws Exception {
        told.append(name).append(Arrays.toString(args)).append('\n');
        long want = ask(plain, name, args);
        long got = ask(cave, name, args);
        if (want == got) {
            return true;
        }
        System.out.println(told + "answered " + got + ", the other one says " + want);
        return false;
    }

    private boolean looksAlike() throws Exception {
        int length = told.length();
        boolean alike = true;
        for (int what = -1; what <= 11 && alike; what++) {
            alike = both("count", what);
        }
        for (int i = -1; i <= cave.count(9) && alike; i++) {
            alike = both("row", i);
        }
        for (int q = -1; q <= cave.count(0) && alike; q++) {
            for (int what = -1; what <= 6 && alike; what++) {
                alike = both("passage", q, what);
            }
        }
        told.setLength(length);
        return alike;
    }

    private boolean put(String text, String reader, int... args) throws Exception {
        boolean alike = random.nextInt(20) == 0 || both("end", 0);
        for (int i = 0; i < text.length() && alike; i += 4) {
            int v = 0;
            for (int j = i; j < i + 4; j++) {
                v = v << 8 | (j < text.length() ? text.charAt(j) : random.nextInt(256));
            }
            alike = both("sign", v);
        }
        told.append('"').append(text).append("\" ");
        return alike && both("end", Math.min(80, text.length())) && both(reader, args);
    }

    private int n(int least, int most) {
        return random.nextInt(40) == 0 ? oddNumber() : least + random.nextInt(most - least + 1);
    }

    private int oddNumber() {
        int[] odd = {-1, 8, 10, 12, 13, 61, 256, Integer.MAX_VALUE, Integer.MIN_VALUE, random.nextInt()};
        return odd[random.nextInt(odd.length)];
    }

    private int cavern() {
        return n(0, dense ? 3 : 7);
    }

    private int passage() {
        return n(0, Math.max(0, cave.count(0) - 1));
    }

    private boolean anyCall() throws Exception {
        // Where an echo can be made is asked for more often than chance would find.
        int c = cavern();
        int q = passage();
        for (int i = 0; i < 8 && (q < 0 || q >= cave.count(0) || cave.passage(q, 0) != c); i++) {
            q = passage();
        }
        switch (random.nextInt(46)) {
            case 0:
                return put(lines(), "passages");
            case 1:
                return put(changed(expression(3)), "rule");
            case 2:
                return both("cavern", cavern(), n(0, 2));
            case 3:
                return both("sheet", n(0, 3), n(0, 12), random.nextBoolean() ? n(-3, 9) : random.nextInt(), n(-3, 300));
            case 4:
            case 5:
            case 6:
            case 7:
                return put(changed(letters()), "calls", c, q);
            case 8:
                return both("hours", random.nextBoolean() ? n(0, 3) : n(0, 60));
            case 9:
                return both("falls", passage());
            case 10:
                return both("digs", passage(), n(1, 9), n(0, 9));
            case 11:
            case 12:
                return put(changed(season()), "season");
            case 13:
            case 14:
                return both("undo");
            case 15:
                return both("route", c, q);
            case 16:
                return put(changed(letters()), "hears", c, q);
            case 17:
                return put(changed(letters()), "asks", c, q);
            case 18:
                return put(changed(pair()), "becomes");
            case 19:
                return both("keeps", c, q);
            case 20:
                return both("apart", c, q, random.nextInt(8) == 0 ? n(1, 6) : n(1, 4));
            case 21:
                return both("longest", cavern());
            case 22:
                return both("rounds");
            case 23:
                return both("way", cavern(), cavern());
            case 24:
                return both("meets", cavern(), cavern());
            case 25:
                return both("heart");
            case 26:
                return both("ropes");
            case 27:
                return both("needed");
            case 28:
                return both("tour", cavern(), random.nextBoolean() ? n(0, 255) : cave.cavern(0, 1) & n(0, 255));
            case 29:
                return both("halves");
            case 30:
                return both("guides");
            case 31:
                return both("most");
            case 32:
                return both("told", n(0, 4), n(0, 9));
            case 33:
                return random.nextInt(3) > 0 || both("forget");
            case 34:
                return both("fits");
            case 35:
                return both("next");
            case 36:
                return both("heard", n(0, 7), n(0, 9), n(0, 7));
            case 37:
                return both("denied");
            case 38:
                return both("laws") && looksAlike() && both("listens");
            case 39:
                return both("hints", c, q, n(0, 7), n(0, 7), n(0, 10));
            case 40:
                return both("game", n(0, 60), n(2, 9));
            case 41:
                return put(changed(expression(3)), "law");
            case 42:
                return both("rests", n(0, 20));
            case 43:
                return both("years", random.nextInt(), random.nextBoolean() ? n(1, 5) : n(1, 60));
            case 44:
                return both("keep", n(0, 2));
            default:
                return random.nextInt(3) > 0 || both("again", n(0, 2));
        }
    }

    // ---- texts

    private String lines() {
        StringBuilder s = new StringBuilder();
        int lines = random.nextInt(6) == 0 ? random.nextInt(14) : random.nextInt(4);
        for (int i = 0; i < lines; i++) {
            int one = random.nextInt(dense ? 4 : 8);
            int other = (one + 1 + random.nextInt(dense ? 3 : 7)) % (dense ? 4 : 8);
            s.append(i > 0 ? ";" : "").append(one).append(other);
            s.append(1 + random.nextInt(dense ? 3 : 9)).append(random.nextInt(10));
        }
        return random.nextInt(3) > 0 ? s.toString() : changed(s.toString());
    }

    private String letters() {
        StringBuilder s = new StringBuilder();
        for (int i = 1 + random.nextInt(6); i > 0; i--) {
            s.append((char) ('a' + random.nextInt(8)));
        }
        return s.toString();
    }

    private String pair() {
        String first = letters();
        if (random.nextInt(3) > 0) {
            first = first.substring(0, 1);
        }
        StringBuilder s = new StringBuilder(first).append(';');
        for (int i = 0; i < first.length(); i++) {
            s.append((char) ('a' + random.nextInt(8)));
        }
        return s.toString();
    }

    private String season() {
        StringBuilder s = new StringBuilder();
        for (int i = random.nextInt(8); i > 0; i--) {
            int q = random.nextInt(Math.max(1, Math.min(10, cave.count(0))));
            switch (random.nextInt(5)) {
                case 0:
                    s.append('n').append(random.nextInt(10));
                    break;
                case 1:
                    s.append('x').append(q);
                    break;
                case 2:
                    s.append('m').append(q).append(random.nextInt(10)).append(random.nextInt(10));
                    break;
                default:
                    int c = q < cave.count(0) ? cave.passage(q, random.nextInt(2)) : random.nextInt(10);
                    s.append('s').append(c).append(q).append(letters());
            }
        }
        return s.toString();
    }

    private String expression(int depth) {
        if (random.nextInt(12) == 0) {
            return "";
        }
        String s = sum(depth);
        return random.nextInt(3) > 0 ? s : s + "<>=".charAt(random.nextInt(3)) + sum(depth);
    }

    private String sum(int depth) {
        StringBuilder s = new StringBuilder(thing(depth));
        for (int i = random.nextInt(4); i > 0; i--) {
            s.append("+-*/".charAt(random.nextInt(4))).append(thing(depth));
        }
        return s.toString();
    }

    private String thing(int depth) {
        switch (random.nextInt(depth > 0 ? 8 : 5)) {
            case 0:
                return String.valueOf(random.nextInt(random.nextBoolean() ? 10 : 1000));
            case 1:
                return "-" + thing(depth);
            case 2:
            case 3:
            case 4:
                return "vvvbwdpne".substring(random.nextInt(9)).substring(0, 1);
            default:
                String inner = expression(depth - 1);
                return inner.isEmpty() ? "v" : "(" + inner + ")";
        }
    }

    private String changed(String s) {
        StringBuilder t = new StringBuilder(s);
        for (int i = random.nextInt(4) == 0 ? 1 + random.nextInt(2) : 0; i > 0; i--) {
            int p = random.nextInt(t.length() + 1);
            String signs = "abh;0789nsxm()<>=+-*/vbwdpei:` ";
            char sign = random.nextInt(9) == 0 ? (char) random.nextInt(256) : signs.charAt(random.nextInt(signs.length()));
            switch (random.nextInt(4)) {
                case 0:
                    t.insert(p, sign);
                    break;
                case 1:
                    t.setLength(p);
                    break;
                case 2:
                    t.append(s);
                    break;
                default:
                    if (p < t.length()) {
                        t.setCharAt(p, sign);
                    }
            }
        }
        return t.length() > 80 ? t.substring(0, 80) : t.toString();
    }
}
