import java.util.ArrayList;
import java.util.List;
import java.util.NoSuchElementException;

/**
 * Each promise of the document by calls whose answers were worked out by hand:
 * ordinary ones, its edges, and wrong ones, which must change nothing.
 */
public final class PromisesTest {
    private static final Class<?> ARGUMENT = IllegalArgumentException.class;
    private static final Class<?> STATE = IllegalStateException.class;
    private static final Class<?> ELEMENT = NoSuchElementException.class;
    private static final Class<?> INDEX = IndexOutOfBoundsException.class;
    private static final String FOUR =
            "quota 2;dinner 10;member always cost 1;member same cost 4;member other cost 4;member think 1 cost 3;";
    private static int wrong = 0;
    private static int promise = 0;
    private static int rows = 0;

    interface Call {
        Object on(NobodysTuesday x);
    }

    interface Deed {
        void on(NobodysTuesday x);
    }

    public static void main(String[] args) {
        club1to6();
        weeks7to16();
        rest17to31();
        odds32to35();
        ahead36to40();
        was41to47();
        trays48to53();
        System.out.println(rows + " rows, " + wrong + " wrong");
        if (wrong != 0) {
            System.exit(1);
        }
    }

    // ---- how rows are told

    private static void due(String row, long got, long want) {
        rows++;
        if (got != want) {
            wrong++;
            System.out.println("promise " + promise + ": " + row + " answered " + got + ", due is " + want);
        }
    }

    private static void due(String row, boolean got, boolean want) {
        due(row, got ? 1 : 0, want ? 1 : 0);
    }

    /** A call throws, and all that can be asked is answered as before. */
    private static void throwing(Class<?> due, Deed before, Call call) {
        rows++;
        NobodysTuesday x = new NobodysTuesday();
        before.on(x);
        List<String> was = all(x);
        String got = answer(x, call);
        if (!got.equals("throws." + due.getSimpleName())) {
            wrong++;
            System.out.println("promise " + promise + ": row " + rows + " answered " + got + ", due is " + due);
        }
        List<String> is = all(x);
        if (!is.equals(was)) {
            wrong++;
            System.out.println("promise " + promise + ": row " + rows + " changed " + was + " to " + is);
        }
    }

    private static String answer(NobodysTuesday x, Call call) {
        try {
            return String.valueOf(call.on(x));
        } catch (RuntimeException e) {
            return "throws." + e.getClass().getSimpleName();
        }
    }

    private static List<String> all(NobodysTuesday x) {
        List<String> out = new ArrayList<>();
        for (int i = 0; i < 8; i++) {
            int what = i;
            out.add(answer(x, y -> y.count(what)));
        }
        for (int i = 0; i < 7; i++) {
            int what = i;
            out.add(answer(x, y -> y.member(0, what)));
            out.add(answer(x, y -> y.member(3, what)));
        }
        for (int i = 0; i < 4; i++) {
            int tray = i;
            out.add(answer(x, y -> y.judge(tray, 0)));
            out.add(answer(x, y -> y.turnsBy(tray, 0)));
            out.add(answer(x, y -> y.chances(tray, 20, 2)));
        }
        out.add(answer(x, y -> y.fault(0)));
        out.add(answer(x, y -> y.fault(1)));
        out.add(answer(x, y -> y.came(0)));
        out.add(answer(x, y -> y.came(1)));
        out.add(answer(x, y -> y.next()));
        out.add(answer(x, y -> y.cook(0)));
        out.add(answer(x, y -> y.bestRest()));
        return out;
    }

    /** A text on the tape, filled up with blanks. */
    private static int lay(NobodysTuesday x, String text) {
        int has = x.count(7);
        for (int at = 0; at < text.length(); at += 20) {
            int[] v = new int[5];
            for (int i = 0; i < 20; i++) {
                v[i / 4] = v[i / 4] << 8 | (at + i < text.length() ? text.charAt(at + i) : 32);
            }
            has = x.feed(v[0], v[1], v[2], v[3], v[4]);
        }
        return has;
    }

    private static int read(NobodysTuesday x, String text) {
        lay(x, text);
        return x.club(text.length());
    }

    private static NobodysTuesday club(String text) {
        NobodysTuesday x = new NobodysTuesday();
        int lines = read(x, text);
        if (lines < 0) {
            wrong++;
            System.out.println("promise " + promise + ": no club is \"" + text + "\"");
        }
        return x;
    }

    private static Deed has(String text, int... told) {
        return x -> {
            read(x, text);
            for (int set : told) {
                x.told(set);
            }
        };
    }

    private static void fill(NobodysTuesday x, int tray, int sort, long... numbers) {
        x.tray(tray, sort, numbers.length);
        for (int i = 0; i < numbers.length; i++) {
            x.write(tray, i, numbers[i]);
        }
    }

    private static Deed filled(String text, int tray, long... numbers) {
        return x -> {
            read(x, text);
            fill(x, tray, 3, numbers);
        };
    }

    private static String never(int times) {
        return "member never;".repeat(times);
    }

    // ---- the club

    private static void club1to6() {
        promise = 1;
        NobodysTuesday x = new NobodysTuesday();
        int[] fresh = {0, 1, 10, 0, 0, 0, 0, 0};
        for (int what = 0; what < 8; what++) {
            due("count " + what, x.count(what), fresh[what]);
        }
        due("fault(0)", x.fault(0), 0);
        for (int i = 0; i < 4; i++) {
            int tray = i;
            throwing(STATE, y -> { }, y -> y.pour(tray));
        }
        throwing(STATE, y -> { }, y -> { y.restore(0); return 0; });
        throwing(STATE, y -> { }, y -> { y.restore(2); return 0; });
        due("NONE", NobodysTuesday.NONE, -1);

        promise = 2;
        x = new NobodysTuesday();
        due("feed", x.feed(0, 0, 0, 0, 0), 20);
        for (int i = 2; i <= 35; i++) {
            due("feed " + i, x.feed(-1, i, 0, 0, 0), 20 * i);
        }
        due("feed 36", x.feed(0, 0, 0, 0, 0), -1);
        due("count(7)", x.count(7), 700);
        x = new NobodysTuesday();
        // "quota 12;fog 33;    " by its ints: the highest byte comes first.
        due("feed", x.feed(0x71756f74, 0x61203132, 0x3b666f67, 0x2033333b, 0x20202020), 20);
        due("club", x.club(20), 2);
        due("quota", x.count(1), 12);
        due("fog", x.count(3), 33);

        promise = 3;
        texts();
        faults();
        throwing(ARGUMENT, y -> lay(y, "quota 3;"), y -> y.club(21));
        throwing(ARGUMENT, y -> lay(y, "quota 3;"), y -> y.club(-1));
        throwing(ARGUMENT, y -> read(y, "quota 13;"), y -> y.club(1));

        promise = 4;
        x = new NobodysTuesday();
        due("fault(1)", x.fault(1), -1);
        due("fault(2)", x.fault(2), -1);
        due("fault(-1)", x.fault(-1), -1);
        read(x, "quota 13;");
        answer(x, y -> y.club(5));
        due("fault(0)", x.fault(0), 3);
        due("fault(1)", x.fault(1), 6);
        read(x, "quota 12;");
        due("fault(0)", x.fault(0), 0);
        due("fault(1)", x.fault(1), -1);

        promise = 5;
        members();

        promise = 6;
        x = club("quota 2;member always;member never;");
        x.told(3);
        x.told(1);
        due("quota(1)", x.quota(1), 2);
        due("quota(12)", x.quota(12), 1);
        due("met", x.count(6), 0);
        due("quota(1)", x.quota(1), 12);
        due("met(0)", x.met(0), false);
        due("met(1)", x.met(1), true);
        throwing(ARGUMENT, has(FOUR, 3), y -> y.quota(0));
        throwing(ARGUMENT, has(FOUR, 3), y -> y.quota(13));
    }

    private static void texts() {
        NobodysTuesday x = club(FOUR);
        due("members", x.count(4), 4);
        x.week(0);
        x.image(0);
        x.tray(1, 0, 4);
        due("an empty text", x.club(0), 0);
        due("quota", x.count(1), 1);
        due("dinner", x.count(2), 10);
        due("members", x.count(4), 0);
        due("week", x.count(5), 0);
        due("trays stay", x.pour(1), 0);
        x.restore(0);
        due("images stay", x.count(5), 1);
        due("blanks alone", read(x, " \n \n"), 0);
        due("tape", x.count(7), 0);
        due("hardly a blank", read(x, "quota3;member under12cost999umbrella;fog100;"), 3);
        due("quota", x.count(1), 3);
        due("rule", x.member(0, 0), 4);
        due("number", x.member(0, 1), 12);
        due("cost", x.member(0, 2), 999);
        due("umbrella", x.member(0, 3), 1);
        due("fog", x.count(3), 100);
        due("many blanks", read(x, "\n\nquota\n012\n;\n dinner  007 ; "), 2);
        due("quota", x.count(1), 12);
        due("dinner", x.count(2), 7);
        due("later ones strike", read(x, "quota 3;dinner 4;fog 5;quota 6;fog 8;dinner 7;"), 6);
        due("quota", x.count(1), 6);
        due("dinner", x.count(2), 7);
        due("fog", x.count(3), 8);
        due("a part of the tape", lay(x, "quota 2;quota 3;"), 20);
        due("its first line", x.club(8), 1);
        due("quota", x.count(1), 2);
        due("tape", x.count(7), 0);
        // What stands on the tape behind the text is not read.
        int[][] cuts = {{0, 0, -1}, {4, 2, 0}, {5, 2, 5}, {7, 2, 7}, {8, 2, 8}, {9, 0, -1}, {12, 2, 9}};
        for (int[] cut : cuts) {
            lay(x, "quota 12;dinnerdinner;");
            x.club(cut[0]);
            due("fault of its first " + cut[0] + " bytes", x.fault(0), cut[1]);
            due("place in its first " + cut[0] + " bytes", x.fault(1), cut[2]);
        }
        due("12 members", read(x, never(12)), 12);
        // A dinner told behind MEMBERS counts for all that is weighed by it.
        x = club("quota 1;dinner 1;member never cost 5;dinner 9;");
        due("rest", x.rest(0), 1);
        StringBuilder whole = new StringBuilder("quota 5;").append(" ".repeat(684)).append("quota 4;");
        due("700 bytes", read(x, whole.toString()), 2);
        due("quota", x.count(1), 4);
        manyClubs();
        String least = "member under 0;member over 0;member every 1;member hats 0;member sees 0;member think 0;";
        String most = "member under 12;member over 12;member every 12;member hats 12;member sees 12;member think 6;";
        due("bounds", read(x, least + most), 12);
        int[] numbers = {0, 0, 1, 0, 0, 0, 12, 12, 12, 12, 12, 6};
        for (int m = 0; m < 12; m++) {
            due("number of " + m, x.member(m, 1), numbers[m]);
        }
        due("bounds", read(x, "quota 1;dinner 0;fog 0;member never cost 0;"), 4);
        due("bounds", read(x, "quota 12;dinner 999;fog 100;member never cost 999;"), 4);
        due("dinner", x.count(2), 999);
    }

    /** Of clubs that come one behind the other none leaves anything. */
    private static void manyClubs() {
        NobodysTuesday x = new NobodysTuesday();
        String rich = "quota 7;dinner 90;fog 40;member learns cost 3 umbrella;member never umbrella;member never cost 95;";
        for (int i = 0; i < 3; i++) {
            due("rich", read(x, rich), 6);
            x.told(5);
            x.told(1);
        }
        read(x, "quota 13;");
        read(x, "dinner 1000;");
        due("plain", read(x, "member never;member never;member sees 1;"), 3);
        int[] counts = {3, 1, 10, 0, 3, 0, 0, 0};
        for (int what = 0; what < 8; what++) {
            due("count(" + what + ")", x.count(what), counts[what]);
        }
        for (int m = 0; m < 3; m++) {
            due("cost of " + m, x.member(m, 2), 0);
            due("umbrella of " + m, x.member(m, 3), 0);
        }
        due("no hats", x.next(), 0);
        due("all but nobody rest", x.rest(-1), 7);
        due("poor", read(x, "dinner 1;member never cost 1;member never cost 2;"), 3);
        due("those of it alone are willing", x.rest(-1), 2);
        due("those of it alone are willing", x.inTurn(), 0);
    }

    private static void fault(String text, int kind, int place) {
        NobodysTuesday x = club(FOUR);
        x.week(0);
        due("\"" + text + "\"", read(x, text), -10 - kind);
        due("fault(0) of \"" + text + "\"", x.fault(0), kind);
        due("fault(1) of \"" + text + "\"", x.fault(1), place);
        due("tape", x.count(7), 0);
        due("members stay", x.count(4), 4);
        due("lines stay", x.count(0), 6);
        due("quota stays", x.count(1), 2);
        due("dinner stays", x.count(2), 10);
        due("fog stays", x.count(3), 0);
        due("week stays", x.count(5), 1);
        due("met stays", x.count(6), 1);
    }

    private static void faults() {
        fault("Quota 1;", 1, 0);
        fault("quota\t1;", 1, 5);
        fault("quota 1" + (char) 233 + ";", 1, 7);
        fault("quota " + (char) 0 + "1;", 1, 6);
        fault("quota 1000;", 1, 6);
        fault("1000", 1, 0);
        fault("quota 0001;", 1, 6);
        fault("member always 1234;", 1, 14);
        fault("member Always;", 1, 7);
        fault("quota 1,", 1, 7);
        fault("quota -1;", 1, 6);
        fault("quota 1;{", 1, 8);
        fault("quota 1;`", 1, 8);
        fault("quota 1;/", 1, 8);
        fault("quota 1;:", 1, 8);
        fault(";", 2, 0);
        fault("quota", 2, 5);
        fault("quota 1", 2, 7);
        fault("quota 1  ", 2, 9);
        fault("quota 1;;", 2, 8);
        fault("quota;", 2, 5);
        fault("quota one;", 2, 6);
        fault("quota 1 1;", 2, 8);
        fault("quotas 1;", 2, 0);
        fault("quot 1;", 2, 0);
        fault("7;", 2, 0);
        fault("zoo 1;", 2, 0);
        fault("quota a;", 2, 6);
        fault("dinner;", 2, 6);
        fault("fog;", 2, 3);
        fault("member;", 2, 6);
        fault("member", 2, 6);
        fault("member 3;", 2, 7);
        fault("member cost 3;", 2, 7);
        fault("member alwaysnever;", 2, 7);
        fault("member always 3;", 2, 14);
        fault("member learns 3;", 2, 14);
        fault("member under;", 2, 12);
        fault("member under cost 1;", 2, 13);
        fault("member always cost;", 2, 18);
        fault("member always cost umbrella;", 2, 19);
        fault("member always cost 1 cost 1;", 2, 21);
        fault("member always umbrella umbrella;", 2, 23);
        fault("member always umbrella cost 1;", 2, 23);
        fault("member always umbrella", 2, 22);
        fault("member always member always;", 2, 14);
        fault("member always cost 1 2;", 2, 21);
        fault("quota 0;", 3, 6);
        fault("quota 13;", 3, 6);
        fault("fog 101;", 3, 4);
        fault("member under 13;", 3, 13);
        fault("member over 13;", 3, 12);
        fault("member hats 13;", 3, 12);
        fault("member sees 13;", 3, 12);
        fault("member every 13;", 3, 13);
        fault("member every 0;", 3, 13);
        fault("member think 7;", 3, 13);
        // The first along the text comes ahead of a lesser kind behind it.
        fault("quota 13 1000;", 3, 6);
        fault("quota 13;Q", 3, 6);
        fault(never(13), 4, 156);
        fault(never(12) + "member 1000;", 4, 156);
        fault(never(12) + "member", 4, 156);
        fault(never(12) + "quota member;", 2, 162);
        fault(never(11) + "member never member never;", 2, 156);
    }

    private static void members() {
        NobodysTuesday x = club("quota 2;dinner 9;member always cost 2;member never umbrella;member same;"
                + "member other;member under 3;member over 4;member every 5;member hats 6;member sees 7;"
                + "member think 6;member learns cost 999 umbrella;");
        int[] numbers = {0, 0, 0, 0, 3, 4, 5, 6, 7, 6, 0};
        for (int m = 0; m < 11; m++) {
            due("rule of " + m, x.member(m, 0), m);
            due("number of " + m, x.member(m, 1), numbers[m]);
            due("cost of " + m, x.member(m, 2), m == 0 ? 2 : m == 10 ? 999 : 0);
            due("umbrella of " + m, x.member(m, 3), m == 1 || m == 10 ? 1 : 0);
        }
        x.told(3);
        x.told(1);
        x.told(2);
        x.told(7);
        due("came", x.member(0, 4), 3);
        due("dined", x.member(0, 5), 1);
        due("pay", x.member(0, 6), 9 - 3 * 2);
        due("came", x.member(1, 4), 3);
        due("pay", x.member(1, 6), 9);
        due("pay of who never came", x.member(10, 6), 0);
        x.quota(1);
        due("dined by another quota", x.member(0, 5), 1);
        x.quota(3);
        due("pay by another quota", x.member(2, 6), 9);
        throwing(ELEMENT, has(FOUR, 3), y -> y.member(4, 0));
        throwing(ELEMENT, has(FOUR, 3), y -> y.member(-1, 0));
        throwing(ELEMENT, has(FOUR, 3), y -> y.member(4, 9));
        throwing(ARGUMENT, has(FOUR, 3), y -> y.member(0, 7));
        throwing(ARGUMENT, has(FOUR, 3), y -> y.member(0, -1));
    }

    // ---- weeks

    private static void weeks7to16() {
        promise = 7;
        rulesByWeeks();
        fog();
        throwing(STATE, PromisesTest::sixty, y -> y.week(1));

        promise = 8;
        NobodysTuesday x = club("quota 2;member never;member never;");
        due("told(3)", x.told(3), true);
        due("told(0)", x.told(0), false);
        due("came(0)", x.came(0), 3);
        due("week", x.count(5), 2);
        throwing(ARGUMENT, has(FOUR, 3), y -> y.told(16));
        throwing(ARGUMENT, has(FOUR, 3), y -> y.told(-1));
        throwing(STATE, PromisesTest::sixty, y -> y.told(0));
        throwing(STATE, PromisesTest::sixty, y -> y.told(-1));

        promise = 9;
        x = club(FOUR);
        x.told(3);
        x.told(5);
        x.told(6);
        due("back(0)", x.back(0), 3);
        due("back(2)", x.back(2), 1);
        due("came(0)", x.came(0), 3);
        due("last week", x.thought(1, 0), true);
        due("told again", x.told(9), true);
        due("came(1)", x.came(1), 9);
        due("back(2)", x.back(2), 0);
        due("nobody came", x.thought(1, 0), false);
        x = weeks("quota 2;dinner 5;member learns cost 1;member never;member sees 0;", 7, 3, 3, 7);
        due("back(2)", x.back(2), 2);
        due("came", x.member(0, 4), 2);
        due("dined", x.member(0, 5), 1);
        due("pay", x.member(0, 6), 3);
        due("met", x.count(6), 1);
        due("streak", x.streak(0), 1);
        due("tally", x.tally(3), 1);
        due("together", x.together(0, 2), 1);
        due("cook", x.cook(0), 1);
        due("guess", x.guess(1), 2);
        x.back(1);
        due("learns", x.next(), 4);
        x.tray(0, 0, 3);
        due("pour", x.pour(0), 1);
        throwing(ARGUMENT, has(FOUR, 3), y -> y.back(2));
        throwing(ARGUMENT, has(FOUR, 3), y -> y.back(-1));

        promise = 10;
        x = club(FOUR);
        x.told(6);
        x.told(15);
        due("came(0)", x.came(0), 6);
        due("came(1)", x.came(1), 15);
        throwing(ELEMENT, has(FOUR, 6, 15), y -> y.came(2));
        throwing(ELEMENT, has(FOUR, 6, 15), y -> y.came(-1));

        promise = 11;
        due("met(0)", x.met(0), true);
        due("met(1)", x.met(1), false);
        throwing(ELEMENT, has(FOUR, 6, 15), y -> y.met(2));
        throwing(ELEMENT, has(FOUR, 6, 15), y -> y.met(-1));

        promise = 12;
        x = club("fog 100;member always;member hats 1;member sees 1;");
        due("next sees all hats", x.next(), 5);
        due("but in fog", x.week(7), 3);
        due("next of none", new NobodysTuesday().next(), 0);
        x = new NobodysTuesday();
        sixty(x);
        due("next of week 60", x.next(), 5);

        promise = 13;
        x = club("fog 100;member always;member never umbrella;member always umbrella;member never;member never;");
        for (int m = 0; m < 5; m++) {
            due("hats of " + m, x.hats(m), Math.min(m, 3));
        }
        throwing(ELEMENT, has(FOUR), y -> y.hats(4));
        throwing(ELEMENT, has(FOUR), y -> y.hats(-1));

        promise = 14;
        thoughts();

        promise = 15;
        x = club("quota 2;dinner 5;" + never(3));
        due("settled", x.settled(), 0);
        // 001, 110, 110: two wanted, one comes: the two others; then at rest.
        x.told(1);
        due("settled", x.settled(), 1);
        // 111, 000, 000
        x.told(7);
        due("settled", x.settled(), 1);
        x.told(6);
        due("settled", x.settled(), 0);
        x.quota(1);
        // 110, 000, 111, 000, ..
        due("settled", x.settled(), -1);

        promise = 16;
        judging();
    }

    private static void sixty(NobodysTuesday x) {
        read(x, "quota 2;member every 12;member other;member over 0;member never;");
        for (int i = 0; i < 60; i++) {
            x.told(i % 16);
        }
    }

    private static void row(String text, int... sets) {
        NobodysTuesday x = club(text);
        for (int i = 0; i < sets.length; i++) {
            due("next " + i + " of " + text, x.next(), sets[i]);
            due("week " + i + " of " + text, x.week(i * 77), sets[i]);
        }
    }

    private static void rulesByWeeks() {
        row("member always;", 1, 1, 1);
        row("member never;", 0, 0, 0);
        row("member same;", 0, 0, 0);
        row("member other;member other;", 3, 0, 3, 0);
        row("member under 1;member under 0;member under 2;", 5, 0, 5, 0);
        row("member other;member over 0;member over 1;", 1, 2, 3, 6);
        row("member every 1;member every 2;member every 3;", 7, 1, 3, 5, 3, 1, 7);
        row("member other;member hats 1;member hats 2;member sees 1;member sees 0;", 1 + 4, 2 + 4, 1 + 4);
        row("member never umbrella;member always umbrella;member sees 2;member hats 2;", 2 + 4);
        row("quota 1;member think 0;member think 1 cost 10;member think 1 cost 9;", 4, 4, 4);
        row("quota 2;member always cost 30;member think 1;member think 2;", 1, 7, 1, 7);
        // Had he come: alone with a quota of 1 the 2nd WEEK, not in the 1st.
        row("quota 1;dinner 5;member every 2;member learns cost 3;", 1, 0, 1, 0);
        row("quota 2;dinner 5;member every 2;member learns cost 2;", 1, 2, 3, 2, 3);
        row("quota 2;dinner 5;member every 2;member learns cost 3;", 1, 2, 1, 2);
        NobodysTuesday x = club("member same;member other;");
        x.told(1);
        due("same and other behind told", x.week(0), 3);
        x = club("quota 2;dinner 5;member always;member learns cost 1;");
        x.week(0);
        due("learns by quota 2", x.next(), 3);
        x.quota(1);
        due("learns by quota 1", x.next(), 1);
        row("quota 1;dinner 5;member learns cost 2;", 0, 1, 1);
        row("quota 1;dinner 2;member learns cost 2;", 0, 0, 0);
    }

    /** Draws modulo 100, worked out apart: of seed 0: 0, 36; of 1: 38, 26, 13; of 7: 32, 6, 68; of -1: 97, 9, 62. */
    private static void fog() {
        String text = "member always;member never umbrella;member never;member sees 1;";
        due("0 is below 1, 36 is not", club("fog 1;" + text).week(0), 1 + 8);
        due("without fog", club("fog 0;" + text).week(0), 1);
        due("36 is not below 36", club("fog 36;" + text).week(0), 1 + 8);
        due("36 is below 37", club("fog 37;" + text).week(0), 1);
        due("38 is below 39, 26 too", club("fog 39;" + text).week(1), 1);
        due("38 is not below 38, 26 is", club("fog 38;" + text).week(1), 1 + 8);
        due("neither is below 26", club("fog 26;" + text).week(1), 1);
        due("all is below 100", club("fog 100;member always;member hats 1;").week(5), 3);
        // Each MEMBER with hats or sees has draws of his own for the HATS ahead of him.
        String two = "member always;member hats 1;member sees 1;";
        due("38 below 39; 26, 13 too", club("fog 39;" + two).week(1), 1 + 2);
        due("38 not below 38; 26 is", club("fog 38;" + two).week(1), 1);
        due("38, 26 not below 26", club("fog 26;" + two).week(1), 1 + 4);
        due("32 below 33; 6 too, 68 not", club("fog 33;" + two).week(7), 1 + 2 + 4);
        due("32 not below 32; 6 is", club("fog 32;" + two).week(7), 1);
        due("97 below 98; 9, 62 too", club("fog 98;" + two).week(-1), 1 + 2);
        NobodysTuesday x = club("fog 33;" + two);
        due("a seed", x.week(7), 7);
        due("the same seed", x.week(7), 7);
    }

    private static void thoughts() {
        NobodysTuesday x = club("quota 2;dinner 5;member never;member always cost 4;member same cost 5;");
        x.told(1);
        boolean[][] by = {{true, false, false}, {false, true, false}, {true, false, false}, {false, true, false}};
        for (int d = 0; d < 4; d++) {
            for (int m = 0; m < 3; m++) {
                due("thought(" + m + ", " + d + ")", x.thought(m, d), by[d][m]);
            }
        }
        x.told(3);
        for (int d = 0; d <= 6; d++) {
            due("thought(0, " + d + ")", x.thought(0, d), true);
            due("thought(2, " + d + ")", x.thought(2, d), false);
        }
        x = club("quota 1;dinner 5;member never cost 9;member never cost 5;");
        x.told(1);
        due("he who came would lose", x.thought(0, 1), false);
        x.told(2);
        due("he who came would have 0", x.thought(1, 1), false);
        due("nobody", x.thought(1, 2), false);
        throwing(ARGUMENT, has(FOUR, 3), y -> y.thought(0, 7));
        throwing(ARGUMENT, has(FOUR, 3), y -> y.thought(0, -1));
        throwing(ELEMENT, has(FOUR, 3), y -> y.thought(4, 7));
        throwing(ELEMENT, has(FOUR, 3), y -> y.thought(-1, 0));
    }

    private static void judging() {
        String text = "fog 100;member other;member every 2;member hats 1;";
        NobodysTuesday x = club(text);
        fill(x, 2, 0, 3, 4, 3, 4);
        due("all are", x.judge(2, 0), -1);
        due("all are", x.judge(2, 1), -1);
        x.write(2, 2, 7);
        x.write(2, 3, 7);
        due("first wrong", x.judge(2, 0), 2);
        due("due there", x.judge(2, 1), 3);
        due("nothing went by", x.count(5), 0);
        fill(x, 0, 3, (1L << 32) + 3);
        due("cut by nothing", x.judge(0, 0), 0);
        x.tray(1, 3, 0);
        due("an empty tray", x.judge(1, 0), -1);
        x = club("member always;".repeat(8));
        fill(x, 0, 0, 255);
        due("8 bits have a sign", x.judge(0, 0), 0);
        fill(x, 0, 1, 255);
        due("16 bits hold it", x.judge(0, 0), -1);
        x = new NobodysTuesday();
        sixty(x);
        fill(x, 0, 2, 5, 6, 4);
        due("beyond week 60", x.judge(0, 0), -1);
        fill(x, 0, 2, 5, 4, 4);
        due("beyond week 60", x.judge(0, 0), 1);
        due("beyond week 60", x.judge(0, 1), 6);
        throwing(ELEMENT, filled(text, 0, 3), y -> y.judge(4, 5));
        throwing(ELEMENT, filled(text, 0, 3), y -> y.judge(-1, 0));
        throwing(STATE, filled(text, 0, 3), y -> y.judge(1, 5));
        throwing(ARGUMENT, filled(text, 0, 3), y -> y.judge(0, 2));
        throwing(ARGUMENT, filled(text, 0, 3), y -> y.judge(0, -1));
    }

    // ---- at rest

    private static void rest17to31() {
        promise = 17;
        NobodysTuesday x = club("quota 2;dinner 10;member never cost 3;member never cost 12;member never;");
        int[][] gains = {{0, -3, -12, 0}, {1, 3, -2, 10}, {2, 7, 12, 10}, {3, -7, 2, 0}, {4, 7, -2, 0},
                {5, -7, -12, -10}, {6, -3, 2, -10}, {7, 3, 12, 0}};
        for (int[] row : gains) {
            for (int m = 0; m < 3; m++) {
                due("gain(" + row[0] + ", " + m + ")", x.gain(row[0], m), row[m + 1]);
            }
        }
        throwing(ELEMENT, has(FOUR), y -> y.gain(16, 4));
        throwing(ELEMENT, has(FOUR), y -> y.gain(0, -1));
        throwing(ARGUMENT, has(FOUR), y -> y.gain(16, 0));
        throwing(ARGUMENT, has(FOUR), y -> y.gain(-1, 0));

        promise = 18;
        int[] rests = {0, 5};
        for (int set = 0; set < 8; set++) {
            due("rests(" + set + ")", x.rests(set), set == rests[0] || set == rests[1]);
        }
        throwing(ARGUMENT, has(FOUR), y -> y.rests(16));
        throwing(ARGUMENT, has(FOUR), y -> y.rests(-1));

        promise = 19;
        kth(x, new int[] {0, 5});
        kth(new NobodysTuesday(), new int[] {0});
        kth(club("quota 1;dinner 2;member never cost 2;member never cost 1;"), new int[] {1, 2});
        // He who pays 3 for 2 never comes; the other always does better.
        kth(club("quota 1;dinner 2;member never cost 3;member never;"), new int[] {2});
        kth(club("quota 3;dinner 2;member never cost 3;"), new int[] {0});

        promise = 20;
        x = club(FOUR);
        due("strong(0): two would dine", x.strong(0), false);
        due("strong(5)", x.strong(5), true);
        due("strong(1): not at rest", x.strong(1), false);
        x = club("quota 2;dinner 4;member never cost 4;member never cost 3;");
        due("strong(0): one would have no more", x.strong(0), true);
        x = club("quota 3;dinner 4;member never;member never;member never;");
        due("strong(1): two would dine", x.strong(1), false);
        due("strong(0): three are wanting", x.strong(0), true);
        throwing(ARGUMENT, has(FOUR), y -> y.strong(16));
        throwing(ARGUMENT, has(FOUR), y -> y.strong(-1));

        promise = 21;
        // All of 0, 1, 2, 4, 7 rest (who has no cost may come in vain).
        due("rest(-1)", x.rest(-1), 5);
        due("strongs(-1)", x.strongs(-1), 2);
        due("strongs(0)", x.strongs(0), 0);
        due("strongs(1)", x.strongs(1), 7);
        due("strongs(2)", x.strongs(2), -1);
        due("strongs(-2)", x.strongs(-2), -1);

        turns();
        twos();
        bests();
        repliesAndBribes();
    }

    private static void kth(NobodysTuesday x, int[] sets) {
        due("rest(-1)", x.rest(-1), sets.length);
        for (int k = 0; k < sets.length; k++) {
            due("rest(" + k + ")", x.rest(k), sets[k]);
        }
        due("rest(" + sets.length + ")", x.rest(sets.length), -1);
        due("rest(-2)", x.rest(-2), -1);
        due("rest(max)", x.rest(Integer.MAX_VALUE), -1);
    }

    private static void turns() {
        promise = 22;
        due("in turn", club(FOUR).inTurn(), 3);
        due("who has no more than 0 stays", club("quota 2;dinner 5;member never;member never cost 5;"
                + "member never cost 4;").inTurn(), 5);
        due("too few", club("quota 3;member never;member never;").inTurn(), 0);
        due("of three willing the first two", club("quota 2;dinner 5;member never;member never;"
                + "member never cost 3;").inTurn(), 3);
        due("nobody", new NobodysTuesday().inTurn(), 0);
        due("all twelve", club("quota 12;" + never(12)).inTurn(), 4095);
        due("eleven of twelve", club("quota 11;" + never(12)).inTurn(), 2047);
        due("first of twelve", club("quota 1;" + never(12)).inTurn(), 1);
        due("he ahead of none is first", club("quota 1;member never cost 10;" + never(11)).inTurn(), 2);

        promise = 23;
        String three = "quota 2;dinner 5;member never;member never cost 5;member never cost 4;";
        NobodysTuesday x = club(three);
        fill(x, 3, 1, 2, 1, 0);
        due("turnsBy", x.turnsBy(3, 0), 5);
        due("first", x.turnsBy(3, 1), 2);
        x.quota(3);
        due("none", x.turnsBy(3, 0), 0);
        due("none", x.turnsBy(3, 1), -1);
        x = new NobodysTuesday();
        x.tray(0, 0, 0);
        due("no members", x.turnsBy(0, 0), 0);
        due("no members", x.turnsBy(0, 1), -1);
        throwing(ELEMENT, filled(three, 0, 0, 1, 2), y -> y.turnsBy(4, 0));
        throwing(ELEMENT, filled(three, 0, 0, 1, 2), y -> y.turnsBy(-1, 0));
        throwing(STATE, filled(three, 0, 0, 1, 2), y -> y.turnsBy(1, 7));
        throwing(ARGUMENT, filled(three, 0, 0, 1, 2), y -> y.turnsBy(0, 2));
        throwing(ARGUMENT, filled(three, 0, 0, 1, 2), y -> y.turnsBy(0, -1));
        throwing(ARGUMENT, filled(three, 0, 0, 1), y -> y.turnsBy(0, 0));
        throwing(ARGUMENT, filled(three, 0, 0, 1, 2, 2), y -> y.turnsBy(0, 0));
        throwing(ARGUMENT, filled(three, 0, 0, 1, 1), y -> y.turnsBy(0, 0));
        throwing(ARGUMENT, filled(three, 0, 0, 1, 3), y -> y.turnsBy(0, 0));
        throwing(ARGUMENT, filled(three, 0, 0, 1, -1), y -> y.turnsBy(0, 0));
        throwing(ARGUMENT, filled(three, 0, 0, 1, (1L << 32) + 2), y -> y.turnsBy(0, 0));
    }

    private static void twos() {
        promise = 24;
        NobodysTuesday x = club("quota 1;dinner 3;member never cost 1;member never cost 6;");
        // MEMBER 1 loses anywhere; 0 goes where there is more.
        due("how many", x.two(1, 5, -1), 1);
        due("there", x.two(1, 5, 0), 2);
        due("here", x.two(1, 2, 0), 1);
        due("not so many", x.two(1, 2, 1), -1);
        due("not so many", x.two(1, 2, -2), -1);
        due("either", x.two(1, 3, -1), 2);
        due("either", x.two(1, 3, 1), 2);
        NobodysTuesday both = club("quota 1;dinner 3;member never;member never cost 1;");
        due("both", both.two(1, 3, -1), 2);
        due("both", both.two(1, 3, 0), 2 + 1 * 3);
        due("both", both.two(1, 3, 1), 1 + 2 * 3);
        due("dinner 0", x.two(12, 0, 0), 1);
        due("eight", club(never(8)).two(12, 999, -1) > 0, true);
        due("nobody", new NobodysTuesday().two(1, 1, 0), 0);
        throwing(ARGUMENT, has(FOUR), y -> y.two(0, 1, 0));
        throwing(ARGUMENT, has(FOUR), y -> y.two(13, 1, 0));
        throwing(ARGUMENT, has(FOUR), y -> y.two(1, -1, 0));
        throwing(ARGUMENT, has(FOUR), y -> y.two(1, 1000, 0));
        throwing(STATE, has(never(9)), y -> y.two(1, 1, 0));
        throwing(ARGUMENT, has(never(9)), y -> y.two(0, 1, 0));
    }

    private static void bests() {
        promise = 25;
        due("best rest", club(FOUR).bestRest(), 9);
        due("least of like ones", club("quota 1;dinner 5;member never cost 2;member never cost 2;").bestRest(), 1);
        due("rest with less than 0 is none", club("quota 2;member never cost 1;").bestRest(), 0);
        due("nobody", new NobodysTuesday().bestRest(), 0);

        promise = 26;
        NobodysTuesday x = club("quota 2;dinner 7;member never cost 3;member never cost 9;member never;");
        int[] pays = {0, -3, -9, 2, 0, 11, 5, -12};
        for (int set = 0; set < 8; set++) {
            due("pay(" + set + ")", x.pay(set), pays[set]);
        }
        throwing(ARGUMENT, has(FOUR), y -> y.pay(16));
        throwing(ARGUMENT, has(FOUR), y -> y.pay(-1));

        promise = 27;
        int[] pivots = {0, 6, 5, 7, 3, 7, 7, 7};
        for (int set = 0; set < 8; set++) {
            due("pivots(" + set + ")", x.pivots(set), pivots[set]);
        }
        x.quota(3);
        due("one of two", x.pivots(3), 4);
        due("none", x.pivots(1), 0);
        x.quota(1);
        due("all three are two too many", x.pivots(7), 0);
        due("one too many", x.pivots(3), 3);
        throwing(ARGUMENT, has(FOUR), y -> y.pivots(16));
        throwing(ARGUMENT, has(FOUR), y -> y.pivots(-1));
    }

    private static void repliesAndBribes() {
        promise = 28;
        NobodysTuesday x = club(FOUR);
        int[][] replies = {{0, 0, 0}, {1, 0, 1}, {2, 3, 1}, {15, 12, 2}, {14, 12, 1}, {5, 5, 0}};
        for (int[] row : replies) {
            due("replies(" + row[0] + ", 0)", x.replies(row[0], 0), row[1]);
            due("replies(" + row[0] + ", 1)", x.replies(row[0], 1), row[2]);
        }
        x = club("quota 2;dinner 5;member never cost 9;member never;member never cost 6;");
        due("0 leaves, 1 comes, 2 leaves", x.replies(5, 0), 2);
        due("0 leaves, 1 comes, 2 leaves", x.replies(5, 1), 3);
        throwing(ARGUMENT, has(FOUR), y -> y.replies(16, 0));
        throwing(ARGUMENT, has(FOUR), y -> y.replies(-1, 0));
        throwing(ARGUMENT, has(FOUR), y -> y.replies(0, 2));
        throwing(ARGUMENT, has(FOUR), y -> y.replies(0, -1));

        promise = 29;
        x = club(FOUR);
        due("bribe(0)", x.bribe(0), 0);
        due("bribe(1)", x.bribe(1), 1 + 6 + 6 + 7);
        due("bribe(5)", x.bribe(5), 0);
        due("bribe(15)", x.bribe(15), 1 + 4 + 4 + 3);
        throwing(ARGUMENT, has(FOUR), y -> y.bribe(16));
        throwing(ARGUMENT, has(FOUR), y -> y.bribe(-1));

        promise = 30;
        due("leastBribe(0)", x.leastBribe(0), 0);
        due("leastBribe(1)", x.leastBribe(1), 3);
        x = club("quota 2;dinner 5;member never cost 9;member never cost 7;member never cost 5;");
        due("leastBribe(0)", x.leastBribe(0), 2);
        due("leastBribe(1)", x.leastBribe(1), 6);
        x.quota(3);
        due("all", x.leastBribe(0), 6);
        due("all", x.leastBribe(1), 7);
        x.quota(4);
        due("too few", x.leastBribe(0), -1);
        due("too few", x.leastBribe(1), -1);
        throwing(ARGUMENT, has(FOUR), y -> y.leastBribe(2));
        throwing(ARGUMENT, has(FOUR), y -> y.leastBribe(-1));

        promise = 31;
        x = club(FOUR);
        due("contract(0)", x.contract(0), 4);
        due("contract(1)", x.contract(1), 9);
        x = club("quota 2;dinner 0;member never cost 1;member never cost 1;member never cost 1;");
        due("like ones", x.contract(0), 2);
        due("the least of them", x.contract(1), 3);
        x.quota(3);
        due("all", x.contract(0), 3);
        due("all", x.contract(1), 7);
        x.quota(4);
        due("too few", x.contract(0), -1);
        due("too few", x.contract(1), -1);
        throwing(ARGUMENT, has(FOUR), y -> y.contract(2));
        throwing(ARGUMENT, has(FOUR), y -> y.contract(-1));
    }

    // ---- odds

    private static void odds32to35() {
        promise = 32;
        NobodysTuesday x = club(FOUR);
        due("odds(1, 3, 2)", x.odds(1, 3, 2), 24);
        due("odds(1, 3, 0)", x.odds(1, 3, 0), 16);
        due("odds(2, 3, 3)", x.odds(2, 3, 3), 32);
        due("odds(0, 5, 0)", x.odds(0, 5, 0), 625);
        due("odds(0, 5, 1)", x.odds(0, 5, 1), 0);
        due("odds(5, 5, 4)", x.odds(5, 5, 4), 625);
        due("odds(5, 5, 3)", x.odds(5, 5, 3), 0);
        due("odds(0, 1, 0)", x.odds(0, 1, 0), 1);
        due("odds(1, 1, 4)", x.odds(1, 1, 4), 1);
        due("odds(1, 2, -1)", x.odds(1, 2, -1), 0);
        due("odds(1, 2, 5)", x.odds(1, 2, 5), 0);
        due("nobody", new NobodysTuesday().odds(3, 7, 0), 1);
        x = club(never(12));
        due("all twelve", x.odds(20, 20, 12), 4096000000000000L);
        due("half of them", x.odds(10, 20, 6), 924000000000000L);
        throwing(ARGUMENT, has(FOUR), y -> y.odds(-1, 2, 0));
        throwing(ARGUMENT, has(FOUR), y -> y.odds(3, 2, 0));
        throwing(ARGUMENT, has(FOUR), y -> y.odds(0, 0, 0));
        throwing(ARGUMENT, has(FOUR), y -> y.odds(0, 21, 0));

        promise = 33;
        x = club(FOUR);
        due("bestOdds(1)", x.bestOdds(1), 0);
        due("bestOdds(2)", x.bestOdds(2), 1);
        due("bestOdds(20)", x.bestOdds(20), 10);
        x.quota(4);
        due("all", x.bestOdds(20), 20);
        x = club("quota 1;" + never(3));
        due("bestOdds(3)", x.bestOdds(3), 1);
        due("bestOdds(20)", x.bestOdds(20), 7);
        due("least of like ones", club(never(2)).bestOdds(3), 1);
        throwing(ARGUMENT, has(FOUR), y -> y.bestOdds(0));
        throwing(ARGUMENT, has(FOUR), y -> y.bestOdds(21));

        promise = 34;
        String three = never(3);
        x = club(three);
        fill(x, 2, 0, 1, 2, 0);
        int[] ways = {6, 15, 6, 0};
        for (int k = 0; k < 4; k++) {
            due("chances(2, 3, " + k + ")", x.chances(2, 3, k), ways[k]);
        }
        due("2 of 2", x.chances(2, 2, 2), 4);
        due("k is -1", x.chances(2, 3, -1), 0);
        due("k is 4", x.chances(2, 3, 4), 0);
        x = club(never(12));
        fill(x, 0, 1, 10, 10, 10, 10, 10, 10, 10, 10, 10, 10, 10, 10);
        due("half of twelve", x.chances(0, 20, 6), 924000000000000L);
        x = new NobodysTuesday();
        x.tray(0, 0, 0);
        due("nobody", x.chances(0, 20, 0), 1);
        throwing(ELEMENT, filled(three, 0, 1, 2, 0), y -> y.chances(-1, 0, 0));
        throwing(ELEMENT, filled(three, 0, 1, 2, 0), y -> y.chances(4, 3, 0));
        throwing(STATE, filled(three, 0, 1, 2, 0), y -> y.chances(1, 0, 0));
        throwing(ARGUMENT, filled(three, 0, 0, 0, 0), y -> y.chances(0, 0, 0));
        throwing(ARGUMENT, filled(three, 0, 1, 2, 0), y -> y.chances(0, 21, 0));
        throwing(ARGUMENT, filled(three, 0, 1, 2, 0), y -> y.chances(0, 1, 0));
        throwing(ARGUMENT, filled(three, 0, 1, 2, 0), y -> y.chances(0, 1, 9));
        throwing(ARGUMENT, filled(three, 0, 1, -1, 0), y -> y.chances(0, 3, 0));
        throwing(ARGUMENT, filled(three, 0, 1, 2), y -> y.chances(0, 3, 0));
        throwing(ARGUMENT, filled(three, 0, 1, 2, 0, 0), y -> y.chances(0, 3, 0));

        promise = 35;
        x = club(FOUR);
        due("30 less 8 of 8", x.hope(0, 1, 2, 0), 2);
        due("30 less 8 of 8", x.hope(0, 1, 2, 1), 6);
        due("30 less 32 of 8", x.hope(1, 1, 2, 0), -1);
        due("30 less 32 of 8", x.hope(1, 1, 2, 1), 6);
        due("nobody else", x.hope(0, 0, 3, 0), -1);
        due("nobody else", x.hope(0, 0, 3, 1), 0);
        x = club("quota 1;dinner 7;member never cost 2;");
        due("alone", x.hope(0, 1, 20, 0), 5);
        due("alone", x.hope(0, 1, 20, 1), 0);
        x.quota(2);
        due("alone in vain", x.hope(0, 1, 20, 0), -2);
        x = club("quota 12;dinner 999;" + never(12));
        due("all sure", x.hope(11, 20, 20, 0), 999);
        due("999 of 20 to the 11th", x.hope(11, 1, 20, 0), 0);
        due("999 of 20 to the 11th", x.hope(11, 1, 20, 1), 999);
        throwing(ELEMENT, has(FOUR), y -> y.hope(4, 3, 2, 9));
        throwing(ELEMENT, has(FOUR), y -> y.hope(-1, 1, 2, 0));
        throwing(ARGUMENT, has(FOUR), y -> y.hope(0, 3, 2, 0));
        throwing(ARGUMENT, has(FOUR), y -> y.hope(0, -1, 2, 0));
        throwing(ARGUMENT, has(FOUR), y -> y.hope(0, 0, 0, 0));
        throwing(ARGUMENT, has(FOUR), y -> y.hope(0, 0, 21, 0));
        throwing(ARGUMENT, has(FOUR), y -> y.hope(0, 1, 2, 2));
        throwing(ARGUMENT, has(FOUR), y -> y.hope(0, 1, 2, -1));
    }

    // ---- weeks ahead

    private static void ahead36to40() {
        promise = 36;
        String text = "fog 100;member other;member every 3;member always cost 1;";
        NobodysTuesday x = club(text);
        int[] sets = {7, 4, 5, 6, 5, 4, 7};
        for (int k = 0; k < 7; k++) {
            due("ahead(7, " + (100 + k) + ")", x.ahead(7, 100 + k), sets[k]);
        }
        due("ahead(6, 0)", x.ahead(6, 0), 2);
        due("ahead(1, 0)", x.ahead(1, 0), 0);
        due("ahead(7, 1)", x.ahead(7, 1), 0);
        due("ahead(7, 2)", x.ahead(7, 2), 4);
        x.told(7);
        due("ahead(1, 1)", x.ahead(1, 1), 3);
        due("ahead(2, 1)", x.ahead(2, 1), 2);
        due("ahead(2, 2)", x.ahead(2, 2), 4);
        due("nothing went by", x.count(5), 1);
        due("ahead(60, 159): week 60", x.ahead(60, 159), x.ahead(60, 153));
        x = new NobodysTuesday();
        sixty(x);
        due("week 60", x.ahead(3, 100), 5);
        due("week 61", x.ahead(3, 101), 6);
        due("week 62", x.ahead(3, 102), 4);
        due("learns of weeks ahead", club("quota 2;dinner 5;member every 2;member learns cost 3;").ahead(4, 103), 2);
        throwing(ARGUMENT, has(text, 7), y -> y.ahead(0, 0));
        throwing(ARGUMENT, has(text, 7), y -> y.ahead(61, 0));
        for (int what : new int[] {-1, 3, 99, 102}) {
            throwing(ARGUMENT, has(text, 7), y -> y.ahead(2, what));
        }

        promise = 37;
        rings();

        promise = 38;
        x = club("quota 1;member never umbrella;member sees 1;");
        due("without his umbrella", x.worth(0, 5), 5);
        due("worth(1, 60)", x.worth(1, 60), 60);
        due("worth(1, 1)", x.worth(1, 1), 1);
        x = club("quota 1;dinner 5;member learns cost 2;member never;");
        due("learns from his first week on", x.worth(0, 4), 3);
        x = club("quota 1;member never;member over 0;");
        x.told(1);
        due("last week as it was", x.worth(0, 9), 0);
        x = club("quota 1;member always;member always;");
        due("one too many", x.worth(1, 7), -7);
        due("he stays as he is", x.member(1, 0), 0);
        throwing(ELEMENT, has(FOUR, 3), y -> y.worth(4, 0));
        throwing(ELEMENT, has(FOUR, 3), y -> y.worth(-1, 1));
        throwing(ARGUMENT, has(FOUR, 3), y -> y.worth(0, 0));
        throwing(ARGUMENT, has(FOUR, 3), y -> y.worth(0, 61));

        promise = 39;
        x = club("quota 12;member always;member always;member every 2;");
        due("3", x.bestQuota(1), 3);
        due("3, 2: the least", x.bestQuota(2), 2);
        due("3, 2, 3", x.bestQuota(3), 3);
        due("the quota stays", x.count(1), 12);
        due("never", new NobodysTuesday().bestQuota(60), 1);
        due("all twelve", club("member always;".repeat(12)).bestQuota(1), 12);
        throwing(ARGUMENT, has(FOUR, 3), y -> y.bestQuota(0));
        throwing(ARGUMENT, has(FOUR, 3), y -> y.bestQuota(61));

        promise = 40;
        bestRules();
    }

    private static void ringOf(NobodysTuesday x, int length, int behind) {
        due("ring(0)", x.ring(0), length);
        due("ring(1)", x.ring(1), behind);
    }

    private static void rings() {
        ringOf(new NobodysTuesday(), 1, 0);
        ringOf(club("member always;"), 1, 1);
        ringOf(club("member other;"), 2, 0);
        ringOf(weeks("member same;", 1), 1, 0);
        ringOf(weeks("member other;member every 2;", 1), 2, 1);
        ringOf(club("member every 3;"), 3, 0);
        ringOf(club("member every 3;member every 4;"), 12, 0);
        ringOf(club("member every 6;member every 4;"), 12, 0);
        ringOf(club("member every 1;member every 3;"), 3, 1);
        ringOf(club("member other;member every 3;"), 6, 0);
        ringOf(club("member learns;"), -1, -1);
        ringOf(club("member every 7;member every 8;member every 9;"), -1, -1);
        String long396 = "member always;member over 0;member over 1;member over 2;"
                + "member every 4;member every 9;member every 11;";
        NobodysTuesday x = club(long396);
        x.told(0);
        ringOf(x, 396, 4);
        x = club(long396 + "member over 3;");
        x.told(0);
        ringOf(x, -1, -1);
        throwing(ARGUMENT, has(FOUR, 3), y -> y.ring(2));
        throwing(ARGUMENT, has(FOUR, 3), y -> y.ring(-1));
    }

    private static void bestRuleOf(NobodysTuesday x, int m, int n, int... due) {
        for (int what = 0; what < 3; what++) {
            due("bestRule(" + m + ", " + n + ", " + what + ")", x.bestRule(m, n, what), due[what]);
        }
    }

    private static void bestRules() {
        bestRuleOf(club("quota 1;dinner 5;member never cost 2;"), 0, 3, 0, 0, 9);
        bestRuleOf(club("quota 1;dinner 5;member never cost 2;"), 0, 30, 0, 0, 90);
        bestRuleOf(club("quota 1;dinner 5;member never cost 2;"), 0, 1, 0, 0, 3);
        bestRuleOf(club("quota 2;dinner 5;member never cost 2;"), 0, 1, 1, 0, 0);
        bestRuleOf(club("quota 1;dinner 5;member always;member never cost 2;"), 1, 4, 1, 0, 0);
        NobodysTuesday x = club("quota 1;dinner 5;member every 2;member never cost 2;");
        bestRuleOf(x, 1, 4, 7, 1, 6);
        due("his rule stays", x.member(1, 0), 1);
        // From WEEK 1 on other comes and stays by turns, just when it pays.
        x.told(0);
        bestRuleOf(x, 1, 4, 3, 0, 6);
        // He is ahead of the other, so that no HAT tells him anything.
        bestRuleOf(club("quota 1;dinner 5;member never cost 9;member always;"), 0, 4, 1, 0, 0);
        throwing(ELEMENT, has(FOUR, 3), y -> y.bestRule(4, 0, 9));
        throwing(ELEMENT, has(FOUR, 3), y -> y.bestRule(-1, 1, 0));
        throwing(ARGUMENT, has(FOUR, 3), y -> y.bestRule(0, 0, 0));
        throwing(ARGUMENT, has(FOUR, 3), y -> y.bestRule(0, 31, 0));
        throwing(ARGUMENT, has(FOUR, 3), y -> y.bestRule(0, 1, 3));
        throwing(ARGUMENT, has(FOUR, 3), y -> y.bestRule(0, 1, -1));
    }

    // ---- what was, cooks

    private static NobodysTuesday weeks(String text, int... sets) {
        NobodysTuesday x = club(text);
        for (int set : sets) {
            x.told(set);
        }
        return x;
    }

    private static void was41to47() {
        promise = 41;
        String text = "quota 1;member never;member never;";
        NobodysTuesday x = weeks(text, 1, 3, 2, 1, 0, 1, 2);
        due("longest", x.streak(0), 2);
        due("the first such", x.streak(1), 2);
        x.told(1);
        due("longer", x.streak(0), 3);
        due("longer", x.streak(1), 5);
        x.quota(2);
        due("by another quota", x.streak(0), 1);
        due("by another quota", x.streak(1), 1);
        x.quota(3);
        due("none", x.streak(0), 0);
        due("none", x.streak(1), -1);
        throwing(ARGUMENT, has(FOUR, 3), y -> y.streak(2));
        throwing(ARGUMENT, has(FOUR, 3), y -> y.streak(-1));

        x = weeks(text, 1, 2, 0, 1);
        due("from the first week on", x.streak(0), 2);
        due("from the first week on", x.streak(1), 0);

        promise = 42;
        x = weeks(text, 1, 3, 2, 1, 0, 1, 2);
        int[] tallies = {0, 1, 5, 1, 0};
        for (int k = -1; k < 4; k++) {
            due("tally(" + k + ")", x.tally(k), tallies[k + 1]);
        }

        promise = 43;
        due("together(0, 1)", x.together(0, 1), 1);
        due("together(1, 0)", x.together(1, 0), 1);
        due("together(0, 0)", x.together(0, 0), 4);
        throwing(ELEMENT, has(FOUR, 3), y -> y.together(0, 4));
        throwing(ELEMENT, has(FOUR, 3), y -> y.together(4, 0));
        throwing(ELEMENT, has(FOUR, 3), y -> y.together(0, -1));
        throwing(ELEMENT, has(FOUR, 3), y -> y.together(-1, 0));

        promise = 44;
        due("friends", x.friends(), 1);
        x = weeks(never(3), 1, 2, 4, 0);
        due("none", x.friends(), -1);
        x.told(6);
        due("1 and 2", x.friends(), 102);
        x.told(3);
        due("the first", x.friends(), 1);
        x.told(6);
        due("most often", x.friends(), 102);

        promise = 45;
        String hats = "member always;member never umbrella;member always;member hats 2;member sees 1;member same;";
        x = weeks(hats, 1 + 8, 4 + 16, 0);
        due("fewer than 2 of 2 seen", x.doubts(3, 0), 3);
        due("not just 1 of 3 seen", x.doubts(4, 0), 5);
        due("not fewer than 2 of 2 seen", x.doubts(3, 1), 1);
        due("just 1 of 2 seen", x.doubts(4, 1), 2);
        due("1 hat can't be 2", x.doubts(3, 2), 0);
        due("always", x.doubts(0, 0), -1);
        due("same", x.doubts(5, 0), -1);
        due("no hats at all", weeks("member sees 1;", 1).doubts(0, 0), 0);
        due("eleven hats", weeks("member always;".repeat(11) + "member hats 12;", 4095).doubts(11, 0), 2048);
        throwing(ELEMENT, has(hats, 1), y -> y.doubts(6, 0));
        throwing(ELEMENT, has(hats, 1), y -> y.doubts(-1, 0));
        throwing(ELEMENT, has(hats, 1), y -> y.doubts(3, 1));
        throwing(ELEMENT, has(hats, 1), y -> y.doubts(3, -1));
        throwing(ELEMENT, has(hats, 1), y -> y.doubts(0, 1));

        promise = 46;
        cooks(weeks("quota 1;" + never(2), 1, 3, 2, 1, 0, 1, 2), 4, 2, 2, 2);
        cooks(weeks("quota 2;" + never(3), 7, 0, 0, 7, 7, 3), 7, 9, 10, 6);
        cooks(weeks("quota 2;" + never(3), 7), 0, 0, 0, 0);
        cooks(weeks("quota 2;" + never(3)), 0, 0, 0, 0);
        throwing(ARGUMENT, has(FOUR, 3), y -> y.cook(4));
        throwing(ARGUMENT, has(FOUR, 3), y -> y.cook(-1));

        promise = 47;
        guesses(weeks("quota 2;" + never(3), 7, 0, 0, 7, 7, 3), 2, 1, 3, 2);
        guesses(weeks("quota 2;" + never(3), 7, 0, 0, 7), 3, 1, 0, 2);
        guesses(weeks("quota 2;" + never(3)), -1, -1, -1, -1);
        throwing(ARGUMENT, has(FOUR, 3), y -> y.guess(4));
        throwing(ARGUMENT, has(FOUR, 3), y -> y.guess(-1));
        throwing(ARGUMENT, has(FOUR), y -> y.guess(4));
    }

    private static void cooks(NobodysTuesday x, int... scores) {
        for (int c = 0; c < 4; c++) {
            due("cook(" + c + ")", x.cook(c), scores[c]);
        }
    }

    private static void guesses(NobodysTuesday x, int... due) {
        for (int c = 0; c < 4; c++) {
            due("guess(" + c + ")", x.guess(c), due[c]);
        }
    }

    // ---- trays, images

    private static void trays48to53() {
        promise = 48;
        NobodysTuesday x = club(never(2));
        fill(x, 1, 0, 1, 0);
        due("an order", x.turnsBy(1, 0), 2);
        x.tray(1, 3, 2);
        due("0s again", x.chances(1, 1, 0), 1);
        x.tray(0, 0, 60);
        due("60 places", x.write(0, 59, 1), 1);
        x.tray(3, 2, 0);
        due("none", x.judge(3, 0), -1);
        Deed laid = filled(never(2), 1, 1, 0);
        throwing(ELEMENT, laid, y -> { y.tray(-1, 9, 0); return 0; });
        throwing(ELEMENT, laid, y -> { y.tray(4, 0, 0); return 0; });
        throwing(ARGUMENT, laid, y -> { y.tray(1, -1, 2); return 0; });
        throwing(ARGUMENT, laid, y -> { y.tray(1, 4, 2); return 0; });
        throwing(ARGUMENT, laid, y -> { y.tray(1, 0, -1); return 0; });
        throwing(ARGUMENT, laid, y -> { y.tray(1, 0, 61); return 0; });

        promise = 49;
        long[][] cuts = {{0, 300, 44}, {0, 128, -128}, {0, 127, 127}, {0, -129, 127}, {1, 40000, -25536},
                {1, 32767, 32767}, {1, 65536, 0}, {2, 1L << 31, -(1L << 31)}, {2, (1L << 32) + 5, 5},
                {3, Long.MIN_VALUE, Long.MIN_VALUE}, {3, 1L << 40, 1L << 40}};
        for (long[] cut : cuts) {
            x.tray(2, (int) cut[0], 1);
            due("write " + cut[1] + " in sort " + cut[0], x.write(2, 0, cut[1]), cut[2]);
        }
        throwing(ELEMENT, laid, y -> y.write(4, 9, 0));
        throwing(ELEMENT, laid, y -> y.write(-1, 0, 0));
        throwing(STATE, laid, y -> y.write(0, 9, 0));
        throwing(INDEX, laid, y -> y.write(1, 2, 7));
        throwing(INDEX, laid, y -> y.write(1, -1, 7));

        promise = 50;
        pouring();

        promise = 51;
        imaging();

        promise = 53;
        x = weeks("quota 3;dinner 40;fog 5;" + never(4), 7, 1, 14);
        lay(x, "quota");
        int[] counts = {-1, 7, 3, 40, 5, 4, 3, 2, 20, -1};
        for (int what = -1; what <= 8; what++) {
            due("count(" + what + ")", x.count(what), counts[what + 1]);
        }
    }

    private static void pouring() {
        NobodysTuesday x = weeks(never(2), 1, 0, 3);
        x.tray(0, 0, 2);
        due("as many as places", x.pour(0), 2);
        due("1, 0: an order", x.turnsBy(0, 1), 1);
        x = weeks(never(3), 2, 1);
        fill(x, 0, 0, 0, 0, 0);
        due("as many as weeks", x.pour(0), 2);
        due("2, 1, and the 0 stays", x.turnsBy(0, 1), 2);
        x = weeks(never(3), 2, 0, 3);
        x.back(1);
        fill(x, 0, 0, 0, 0, 1);
        due("as many as weeks", x.pour(0), 2);
        due("2, 0, and the 1 stays", x.turnsBy(0, 1), 2);
        x.tray(1, 0, 0);
        due("no places", x.pour(1), 0);
        x = weeks(never(9), 256 + 5);
        x.tray(0, 0, 1);
        x.pour(0);
        x.back(1);
        read(x, "member always;member never;member always;");
        due("cut to 5", x.judge(0, 0), -1);
        throwing(ELEMENT, has(FOUR, 3), y -> y.pour(4));
        throwing(ELEMENT, has(FOUR, 3), y -> y.pour(-1));
        throwing(STATE, has(FOUR, 3), y -> y.pour(0));
    }

    private static void imaging() {
        NobodysTuesday x = weeks("quota 2;dinner 8;fog 3;member always cost 2 umbrella;member under 7;", 3, 1);
        x.image(2);
        read(x, "quota 13;");
        read(x, "quota 5;dinner 6;fog 7;member never;member never;member over 1 cost 4;");
        x.told(7);
        x.told(6);
        x.told(5);
        x.image(0);
        promise = 52;
        fill(x, 1, 0, 1, 0);
        read(x, "fog 101;");
        lay(x, "quota 1;");
        for (int again = 0; again < 2; again++) {
            x.restore(2);
            int[] counts = {5, 2, 8, 3, 2, 2, 1, 20};
            for (int what = 0; what < 8; what++) {
                due("count(" + what + ")", x.count(what), counts[what]);
            }
            int[] first = {0, 0, 2, 1, 2, 1, 4};
            int[] second = {4, 7, 0, 0, 1, 1, 8};
            for (int what = 0; what < 7; what++) {
                due("member(0, " + what + ")", x.member(0, what), first[what]);
                due("member(1, " + what + ")", x.member(1, what), second[what]);
            }
            due("came(1)", x.came(1), 1);
            due("the fault stays", x.fault(0), 3);
            due("its place stays", x.fault(1), 4);
            due("the tray stays", x.turnsBy(1, 1), 1);
            due("all are weighed anew", x.rest(-1), 2);
            due("all are weighed anew", x.inTurn(), 3);
            due("all are weighed anew", x.thought(1, 1), true);
            // What is done now leaves the IMAGE alone.
            x.quota(9);
            x.back(2);
            x.told(2);
        }
        x.restore(0);
        due("the other image", x.count(4), 3);
        due("the other image", x.came(2), 5);
        x.club(0);
        x.image(0);
        x.restore(2);
        x.restore(0);
        due("made anew", x.count(4), 0);
        throwing(ELEMENT, has(FOUR, 3), y -> { y.image(3); return 0; });
        throwing(ELEMENT, has(FOUR, 3), y -> { y.image(-1); return 0; });
        throwing(ELEMENT, has(FOUR, 3), y -> { y.restore(3); return 0; });
        throwing(ELEMENT, has(FOUR, 3), y -> { y.restore(-1); return 0; });
        throwing(STATE, has(FOUR, 3), y -> { y.restore(1); return 0; });
    }
}
