import java.util.ArrayList;
import java.util.List;
import java.util.NoSuchElementException;

/**
 * How rows are told: promise(n), then says(a sentence of it), then the rows
 * that hold it. A sentence that isn't the document's, or has no row, is wrong.
 */
abstract class Rows {
    static final int NONE = -1;
    static final int LEAST = Integer.MIN_VALUE;
    static final int MOST = Integer.MAX_VALUE;
    static final Class<?> ARGUMENT = IllegalArgumentException.class;
    static final Class<?> STATE = IllegalStateException.class;
    static final Class<?> ELEMENT = NoSuchElementException.class;
    static final Class<?> INDEX = IndexOutOfBoundsException.class;
    static final String RICH_TEXT = "quota 2;dinner 10;fog 40;member always cost 1;member hats 1 cost 4;"
            + "member think 1 cost 4 umbrella;member sees 2 cost 3;";
    static final Deed NEW = x -> { };

    private static final Document document = new Document();
    private static int promise = 0;
    private static String sentence = "";
    private static int rowsOfSentence = 1;
    private static int sentences = 0;
    private static int rows = 0;
    private static int wrong = 0;

    interface Call {
        Object on(NobodysTuesday x);
    }

    interface Deed {
        void on(NobodysTuesday x);
    }

    interface Ask {
        long of(int i);
    }

    // ---- promises and their sentences

    /** The rows that follow are of a promise; 0: of the terms. */
    static void promise(int number) {
        closeSentence();
        promise = number;
    }

    /** The rows that follow would be wrong, were this sentence broken. */
    static void says(String words) {
        closeSentence();
        sentence = words;
        rowsOfSentence = 0;
        sentences++;
        if (!document.quote(promise, words)) {
            fail("the document doesn't say so");
        }
    }

    private static void closeSentence() {
        if (rowsOfSentence == 0) {
            fail("no row");
        }
        rowsOfSentence = 1;
    }

    /** All that the terms and the promises say must have been quoted. */
    static void close() {
        closeSentence();
        sentence = "";
        for (String words : document.neverQuoted()) {
            wrong++;
            System.out.println("no row for promise " + words);
        }
        System.out.println(sentences + " sentences, " + rows + " rows, " + wrong + " wrong");
    }

    static boolean allRight() {
        return wrong == 0;
    }

    static void fail(String what) {
        wrong++;
        System.out.println((promise == 0 ? "terms" : "promise " + promise) + ", \"" + sentence + "\": " + what);
    }

    private static void row() {
        rows++;
        rowsOfSentence++;
    }

    // ---- rows

    static void due(String call, long got, long want) {
        row();
        if (got != want) {
            fail(call + " answered " + got + ", due is " + want);
        }
    }

    static void due(String call, boolean got, boolean want) {
        row();
        if (got != want) {
            fail(call + " answered " + got + ", due is " + want);
        }
    }

    /** A row for each number from one on: call(from), call(from + 1), .. */
    static void dues(String call, Ask ask, int from, long... want) {
        for (int i = 0; i < want.length; i++) {
            due(call + "(" + (from + i) + ")", ask.of(from + i), want[i]);
        }
    }

    /** The same answer for each of some arguments. */
    static void dueOf(String call, Ask ask, long want, int... arguments) {
        for (int i : arguments) {
            due(call + "(" + i + ")", ask.of(i), want);
        }
    }

    /** A call throws just this, in the midst of a run on one object. */
    static void thrown(String call, Class<?> due, NobodysTuesday x, Call asked) {
        row();
        String got = answer(x, asked);
        if (!got.equals("throws " + due.getName())) {
            fail(call + " answered " + got + ", due is throws " + due.getName());
        }
    }

    static void notThrown(String call, NobodysTuesday x, Call asked) {
        row();
        String got = answer(x, asked);
        if (got.startsWith("throws")) {
            fail(call + " " + got);
        }
    }

    /** A call throws just this, and changes nothing of an object with all things in it. */
    static void refused(String call, Class<?> due, Call refusal) {
        refused(call, due, Rows::rich, refusal);
    }

    static void refused(String call, Class<?> due, Deed state, Call refusal) {
        leaves(call, "throws " + due.getName(), state, refusal);
    }

    /** A call answers so, and changes nothing. */
    static void leaves(String call, Object want, Deed state, Call asked) {
        NobodysTuesday x = made(state);
        NobodysTuesday twin = made(state);
        String got = answer(x, asked);
        if (!got.equals(String.valueOf(want))) {
            fail(call + " answered " + got + ", due is " + want);
        }
        same(call, x, twin);
    }

    /** What can be asked of two objects is answered alike. */
    static void same(String call, NobodysTuesday x, NobodysTuesday twin) {
        alike(call, all(x), all(twin));
    }

    /** As same, but for what fault() answers. */
    static void sameButFault(String call, NobodysTuesday x, NobodysTuesday twin) {
        List<String> is = all(x);
        List<String> due = all(twin);
        is.removeIf(answer -> answer.startsWith("fault("));
        due.removeIf(answer -> answer.startsWith("fault("));
        alike(call, is, due);
    }

    private static void alike(String call, List<String> is, List<String> due) {
        row();
        for (int i = 0; i < due.size() && i < is.size(); i++) {
            if (!is.get(i).equals(due.get(i))) {
                fail("behind " + call + " " + is.get(i) + ", due is " + due.get(i));
                return;
            }
        }
        if (is.size() != due.size()) {
            fail("behind " + call + " there is more or less to ask");
        }
    }

    static NobodysTuesday made(Deed state) {
        NobodysTuesday x = new NobodysTuesday();
        state.on(x);
        return x;
    }

    static String answer(NobodysTuesday x, Call call) {
        try {
            return String.valueOf(call.on(x));
        } catch (RuntimeException e) {
            return "throws " + e.getClass().getName();
        }
    }

    // ---- all that can be seen of an object

    private static List<String> all(NobodysTuesday x) {
        List<String> seen = new ArrayList<>();
        lookAtClub(x, seen);
        lookAtTrays(x, seen);
        // What is on the tape is seen by reading it, what is in IMAGES by restoring them.
        add(seen, x, "club", y -> y.club(y.count(7)));
        add(seen, x, "fault(0)", y -> y.fault(0));
        add(seen, x, "fault(1)", y -> y.fault(1));
        lookAtClub(x, seen);
        for (int i = 0; i < 3; i++) {
            int image = i;
            add(seen, x, "restore(" + i + ")", y -> {
                y.restore(image);
                return "";
            });
            lookAtClub(x, seen);
        }
        return seen;
    }

    private static void add(List<String> seen, NobodysTuesday x, String call, Call asked) {
        seen.add(call + " answers " + answer(x, asked));
    }

    private static void lookAtClub(NobodysTuesday x, List<String> seen) {
        for (int i = 0; i < 8; i++) {
            int what = i;
            add(seen, x, "count(" + i + ")", y -> y.count(what));
        }
        int members = x.count(4);
        for (int m = 0; m < members; m++) {
            for (int i = 0; i < 4; i++) {
                int him = m;
                int what = i;
                add(seen, x, "member(" + m + ", " + i + ")", y -> y.member(him, what));
            }
        }
        int weeks = x.count(5);
        for (int w = 0; w < weeks; w++) {
            int week = w;
            add(seen, x, "came(" + w + ")", y -> y.came(week));
        }
        add(seen, x, "fault(0)", y -> y.fault(0));
        add(seen, x, "fault(1)", y -> y.fault(1));
        add(seen, x, "next", NobodysTuesday::next);
        add(seen, x, "settled", NobodysTuesday::settled);
        add(seen, x, "rest(-1)", y -> y.rest(-1));
        add(seen, x, "strongs(-1)", y -> y.strongs(-1));
        add(seen, x, "inTurn", NobodysTuesday::inTurn);
        add(seen, x, "ring(0)", y -> y.ring(0));
    }

    private static void lookAtTrays(NobodysTuesday x, List<String> seen) {
        for (int i = 0; i < 4; i++) {
            int tray = i;
            add(seen, x, "judge(" + i + ", 0)", y -> y.judge(tray, 0));
            add(seen, x, "turnsBy(" + i + ", 0)", y -> y.turnsBy(tray, 0));
            add(seen, x, "turnsBy(" + i + ", 1)", y -> y.turnsBy(tray, 1));
            add(seen, x, "chances(" + i + ", 20, 1)", y -> y.chances(tray, 20, 1));
            add(seen, x, "chances(" + i + ", 20, 2)", y -> y.chances(tray, 20, 2));
            add(seen, x, "chances(" + i + ", 19, 3)", y -> y.chances(tray, 19, 3));
        }
    }

    // ---- objects to ask

    /**
     * An object with all things in it: a FAULT, a club with WEEKS, IMAGE 1,
     * TRAYS 0 (an order, and chances) and 2 (the next WEEKS), a text on the
     * tape; TRAYS 1 and 3 are MISSING, IMAGES 0 and 2 were not made.
     */
    static void rich(NobodysTuesday x) {
        read(x, RICH_TEXT);
        x.told(3);
        x.told(5);
        x.image(1);
        x.week(3);
        x.told(6);
        x.quota(3);
        fill(x, 0, 0, 2, 0, 3, 1);
        int next = x.next();
        fill(x, 2, 3, next, x.ahead(2, 101));
        read(x, "quota 13;");
        lay(x, "dinner 12;member same cost 2;member other umbrella;");
    }

    /** A text on the tape, filled up with blanks to 20 bytes: how many bytes it has. */
    static int lay(NobodysTuesday x, String text) {
        int has = x.count(7);
        for (int at = 0; at < text.length(); at += 20) {
            int[] v = new int[5];
            for (int i = 0; i < 20; i++) {
                v[i / 4] = v[i / 4] << 8 | (at + i < text.length() ? text.charAt(at + i) : ' ');
            }
            has = x.feed(v[0], v[1], v[2], v[3], v[4]);
        }
        return has;
    }

    static int read(NobodysTuesday x, String text) {
        lay(x, text);
        return x.club(text.length());
    }

    static NobodysTuesday club(String text) {
        NobodysTuesday x = new NobodysTuesday();
        if (read(x, text) < 0) {
            fail("no club is \"" + text + "\"");
        }
        return x;
    }

    /** A club of which WEEKS are told. */
    static NobodysTuesday weeks(String text, int... sets) {
        NobodysTuesday x = club(text);
        for (int set : sets) {
            x.told(set);
        }
        return x;
    }

    static Deed has(String text, int... sets) {
        return x -> {
            read(x, text);
            for (int set : sets) {
                x.told(set);
            }
        };
    }

    static Deed filled(String text, int tray, long... numbers) {
        return x -> {
            read(x, text);
            fill(x, tray, 3, numbers);
        };
    }

    static void fill(NobodysTuesday x, int tray, int sort, long... numbers) {
        x.tray(tray, sort, numbers.length);
        for (int i = 0; i < numbers.length; i++) {
            x.write(tray, i, numbers[i]);
        }
    }

    static String never(int times) {
        return "member never;".repeat(times);
    }
}
