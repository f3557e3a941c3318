/** What tests of boundary cases share: numbers outside a range, and all that can be seen of a cave. */
final class Edges {
    /** A call on a cave that is given. */
    interface Asked {
        long answer(CaveAdvice x);
    }

    private Edges() {
    }

    /** Numbers just outside least .. most, far outside, and such as would be inside if bits were lost. */
    static int[] outside(int least, int most) {
        return new int[] {least - 1, most + 1, least - 2, most + 2, least - 256, least + 256, most + 65536, least - 65536,
            most + (1 << 24), Integer.MIN_VALUE, Integer.MIN_VALUE + Math.max(0, least), Integer.MIN_VALUE + most, Integer.MAX_VALUE};
    }

    /**
     * Passages 0 to 3 with a WEAR each, an HOUR, a CALLED, one not OPEN; a rule; what was told and heard;
     * six acts that can be undone; states kept under 0 and 2; a ROW of two numbers; THE TEXT is hag.
     */
    static CaveAdvice worn() {
        CaveAdvice x = Due.withRule(Due.cave("0123;1234;2045;0356"), "v+b-w+p*3");
        x.sheet(2, 4, 2, 2);
        x.keep(0);
        x.hours(1);
        Due.text(x, "cab").calls(0, 0);
        x.keep(2);
        x.falls(3);
        x.digs(1, 7, 8);
        Due.text(x, "n1s00ax3").season();
        x.falls(3);
        x.told(0, 3);
        x.told(3, 1);
        x.heard(1, 2, 3);
        x.rounds();
        return Due.text(x, "hag");
    }

    /** THE TEXT is the first signs of a whole one whose other signs were there, too, before end() took them. */
    static CaveAdvice cut(CaveAdvice x, String whole, int length) {
        Due.text(x, whole);
        x.end(length);
        return x;
    }

    /** All that can be seen without a change, but for the ROW. */
    static String look(CaveAdvice x) {
        return lookAtCave(x) + x.count(6) + " " + x.count(7) + " " + x.count(8) + " " + x.count(10);
    }

    /** What undo() and again() bring back. */
    static String lookAtCave(CaveAdvice x) {
        StringBuilder s = new StringBuilder();
        for (int what = 0; what <= 5; what++) {
            s.append(x.count(what)).append(' ');
        }
        for (int q = 0; q < x.count(0); q++) {
            for (int what = 0; what <= 5; what++) {
                s.append(x.passage(q, what)).append(what == 5 ? " " : ",");
            }
        }
        return s.toString();
    }

    static String rowOf(CaveAdvice x) {
        StringBuilder s = new StringBuilder("ROW");
        for (int i = 0; i < x.count(9); i++) {
            s.append(' ').append(x.row(i));
        }
        return s.toString();
    }

    /** What can be seen by asking alone: THE TEXT, THE RULE, what was told, heard, can be undone, is kept. */
    static String lookThrough(CaveAdvice x) {
        StringBuilder s = new StringBuilder(look(x));
        s.append('\n').append(x.hears(0, 0)).append(rowOf(x));
        s.append('\n').append(Due.text(x, "aah").hears(1, 1)).append(rowOf(x));
        s.append('\n').append(x.fits()).append(rowOf(x)).append(x.laws()).append(rowOf(x));
        for (int left = x.count(8); left >= 0; left--) {
            s.append('\n').append(x.undo()).append(' ').append(left > 3 ? "" : look(x));
        }
        for (int i = 0; i < 3; i++) {
            s.append('\n').append(x.again(i)).append(' ').append(look(x));
        }
        return s.toString();
    }
}
