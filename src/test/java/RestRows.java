/** SETS, GAIN, REST, TURNS, TWO, BRIBES, CONTRACTS (terms), and promises 17 to 31. */
final class RestRows extends Rows {
    private static final String FOUR =
            "quota 2;dinner 10;member always cost 1;member same cost 4;member other cost 4;member think 1 cost 3;";
    private static final String THREE = "quota 2;dinner 5;member never;member never cost 5;member never cost 4;";

    interface OfSet {
        Object on(NobodysTuesday x, int set);
    }

    static void all() {
        setsAndGains();
        atRest();
        turns();
        twoClubs();
        bribesAndContracts();
        gaining();
        resting();
        strongSets();
        inTurns();
        byTray();
        twos();
        best();
        payingAndPivots();
        replying();
        bribing();
        contracting();
    }

    /** SETS with others: behind the last MEMBER, and below 0; all in it, and nobody, are none such. */
    private static void setsWithOthers(String call, OfSet asked) {
        for (int set : new int[] {16, 31, 32, 4096, -1, -16, LEAST, MOST}) {
            refused(call + "(" + set + ")", ARGUMENT, y -> asked.on(y, set));
        }
        refused(call + "(1) of nobody", ARGUMENT, NEW, y -> asked.on(y, 1));
        refused(call + "(-1) of nobody", ARGUMENT, NEW, y -> asked.on(y, -1));
        refused(call + "(4096) of twelve", ARGUMENT, has(never(12)), y -> asked.on(y, 4096));
        refused(call + "(-1) of twelve", ARGUMENT, has(never(12)), y -> asked.on(y, -1));
        notThrown(call + "(0) of nobody", new NobodysTuesday(), y -> asked.on(y, 0));
        notThrown(call + "(0)", made(Rows::rich), y -> asked.on(y, 0));
        notThrown(call + "(15)", made(Rows::rich), y -> asked.on(y, 15));
        notThrown(call + "(4095) of twelve", club(never(12)), y -> asked.on(y, 4095));
    }

    private static void anotherWhat(String call, int least, int most, OfSet asked) {
        for (int what : new int[] {least - 1, most + 1, LEAST, MOST}) {
            refused(call + " of what " + what, ARGUMENT, y -> asked.on(y, what));
        }
    }

    // ---- terms

    private static void setsAndGains() {
        promise(0);
        says("A SET (of MEMBERS, bits) is of those who COME.");
        NobodysTuesday x = club("quota 1;dinner 10;member never cost 1;member never cost 2;member never cost 4;");
        dues("pay", x::pay, 0, 0, 10 - 1, 10 - 2, -3, 10 - 4, -5, -6, -7);
        x.told(5);
        due("who came", x.member(0, 4), 1);
        due("who did not", x.member(1, 4), 0);
        due("who came", x.member(2, 4), 1);

        says("GAIN of a MEMBER in a SET: his PAY, if he alone did the other thing, less his PAY in it.");
        x = club("quota 2;dinner 10;member never cost 3;member never cost 12;member never;");
        int[][] gains = {{0, -3, -12, 0}, {1, 3, -2, 10}, {2, 7, 12, 10}, {3, -7, 2, 0}, {4, 7, -2, 0},
                {5, -7, -12, -10}, {6, -3, 2, -10}, {7, 3, 12, 0}};
        for (int[] row : gains) {
            for (int m = 0; m < 3; m++) {
                due("gain(" + row[0] + ", " + m + ")", x.gain(row[0], m), row[m + 1]);
            }
        }
    }

    private static void atRest() {
        says("REST: no MEMBER has a GAIN above 0.");
        NobodysTuesday x = club("quota 2;dinner 10;member never cost 3;member never cost 12;member never;");
        for (int set = 0; set < 8; set++) {
            due("rests(" + set + ")", x.rests(set), set == 0 || set == 5);
        }
        // A GAIN of 0 is none: who has no cost may come in vain, whose cost is the dinner may stay or come.
        x = club("quota 1;dinner 2;member never cost 2;member never cost 1;");
        for (int set = 0; set < 4; set++) {
            due("rests(" + set + ")", x.rests(set), set == 1 || set == 2);
        }
        x = club("quota 3;dinner 2;" + never(2));
        for (int set = 0; set < 4; set++) {
            due("rests(" + set + ")", x.rests(set), true);
        }

        says("REPLIES from a SET: again and again the first MEMBER with a GAIN above 0 does the other thing, till it is at REST");
        x = club("quota 2;dinner 5;member never cost 9;member never;member never cost 6;");
        due("0 leaves, 1 comes, 2 leaves", x.replies(5, 0), 2);
        due("0 leaves, 1 comes, 2 leaves", x.replies(5, 1), 3);

        says("(it may be after 4,096 at most; NONE: it is not).");
        // Who would lose leaves, the first who is wanted comes, six times: no more can be found.
        x = club("quota 6;dinner 10;" + never(6) + "member never cost 99;".repeat(6));
        due("from the losers", x.replies(4032, 0), 63);
        due("from the losers", x.replies(4032, 1), 12);
        due("from all", x.replies(4095, 0), 63);
        due("from all", x.replies(4095, 1), 6);

        says("STRONG is a SET at REST of which no two MEMBERS would both have more PAY, if they both did the other thing.");
        x = club(FOUR);
        due("strong(0): two would dine", x.strong(0), false);
        due("strong(5)", x.strong(5), true);
        due("strong(1): not at REST", x.strong(1), false);
        x = club("quota 2;dinner 4;member never cost 4;member never cost 3;");
        due("strong(0): one would have no more", x.strong(0), true);
        x = club("quota 2;dinner 4;member never cost 3;member never cost 3;");
        due("strong(0): each would have 1 more", x.strong(0), false);
        x = club("quota 3;dinner 4;" + never(3));
        due("strong(0): three are wanting", x.strong(0), true);
        due("strong(1): two would dine", x.strong(1), false);
        due("strong(3): not at REST", x.strong(3), false);
        due("strong(7)", x.strong(7), true);
        x = club("quota 1;dinner 4;" + never(3));
        due("strong(7): two who left would have 0 as now", x.strong(7), true);
    }

    private static void turns() {
        says("TURNS in an order of all MEMBERS: each in his turn sees who COMES of those ahead of him, and COMES just if he has"
                + " more than 0 by it in the end, all behind him doing likewise.");
        due("the first two", club(FOUR).inTurn(), 3);
        due("who has no more than 0 stays", club(THREE).inTurn(), 5);
        due("too few", club("quota 3;" + never(2)).inTurn(), 0);
        due("just as many", club("quota 2;" + never(2)).inTurn(), 3);
        due("of three willing the first two",
                club("quota 2;dinner 5;member never;member never;member never cost 3;").inTurn(), 3);
        due("nobody", new NobodysTuesday().inTurn(), 0);
        due("dinner 0", club("quota 1;dinner 0;" + never(3)).inTurn(), 0);
        // Whatever is told of RULES, and of LAST WEEK.
        due("always, never", weeks("quota 1;member never;member always;", 2).inTurn(), 1);
    }

    private static void twoClubs() {
        says("TWO for a second club's quota and dinner: each MEMBER stays (0), COMES (1), or goes there"
                + " (2, PAY as here, by its quota and dinner, his cost the same):");
        NobodysTuesday x = club("quota 1;dinner 3;member never cost 1;member never cost 6;");
        // MEMBER 1 loses anywhere; 0 goes where there is more.
        due("how many", x.two(1, 5, -1), 1);
        due("there", x.two(1, 5, 0), 2);
        due("here", x.two(1, 2, 0), 1);
        due("either", x.two(1, 3, -1), 2);
        due("either", x.two(1, 3, 0), 1);
        due("either", x.two(1, 3, 1), 2);

        says("a number: 0, 1, 2 of MEMBER m times 3 to the m-th, all together;");
        NobodysTuesday both = club("quota 1;dinner 3;member never;member never cost 1;");
        due("one here, one there", both.two(1, 3, 0), 2 + 1 * 3);
        due("one here, one there", both.two(1, 3, 1), 1 + 2 * 3);
        // The one who dines here, all others staying.
        x = club("member never cost 1;".repeat(8));
        due("one of 8", x.two(12, 0, -1), 8);
        for (int m = 0, power = 1; m < 8; m++, power *= 3) {
            due("MEMBER " + m, x.two(12, 0, m), power);
        }
        due("one of 8, asked again", x.two(12, 0, -1), 8);

        says("at REST, if none has more PAY by another of the three;");
        due("one here, one there", both.two(1, 3, -1), 2);
        // Just quota there: two who would both lose the one by himself.
        x = club("quota 1;dinner 0;member never cost 2;member never cost 2;");
        due("nobody, or both there", x.two(2, 3, -1), 2);
        due("nobody", x.two(2, 3, 0), 0);
        due("both there", x.two(2, 3, 1), 2 + 2 * 3);
        due("by a dinner of less than it costs, nobody", x.two(2, 1, -1), 1);
        due("whose GAIN is 0 goes or stays", x.two(2, 2, -1), 2);
        // 1 coin is enough to come, or to go there.
        due("for 1 coin here", club("quota 1;dinner 3;member never cost 2;").two(1, 2, -1), 1);
        due("for 1 coin here", club("quota 1;dinner 3;member never cost 2;").two(1, 2, 0), 1);
        due("for 1 coin there", club("quota 1;dinner 2;member never cost 2;").two(1, 3, -1), 1);
        due("for 1 coin there", club("quota 1;dinner 2;member never cost 2;").two(1, 3, 0), 2);
        due("for none anywhere", club("quota 1;dinner 2;member never cost 2;").two(1, 2, -1), 3);
        // Without costs only those with nobody here are not at REST.
        due("all but 256", club(never(8)).two(12, 0, -1), 6561 - 256);

        says("at most 8 MEMBERS.");
        // All 8 there is the last number there is.
        x = club("quota 12;" + "member never cost 1;".repeat(8));
        due("nobody, or all there", x.two(8, 999, -1), 2);
        due("nobody", x.two(8, 999, 0), 0);
        due("all there", x.two(8, 999, 1), 6560);
        refused("two(8, 999, 0) of nine", STATE, has(never(9)), y -> y.two(8, 999, 0));
    }

    private static void bribesAndContracts() {
        says("BRIBE for a SET: the fewest coins that are paid to MEMBERS for doing as it says, each so many that none has a GAIN"
                + " above 0.");
        NobodysTuesday x = club(FOUR);
        due("bribe(0)", x.bribe(0), 0);
        due("bribe(1)", x.bribe(1), 1 + 6 + 6 + 7);
        due("bribe(5)", x.bribe(5), 0);
        due("bribe(7)", x.bribe(7), 1 + 4 + 4);
        due("bribe(15)", x.bribe(15), 1 + 4 + 4 + 3);
        x = club("quota 1;dinner 999;" + never(12));
        due("each of twelve would dine", x.bribe(0), 12 * 999);
        due("nobody pays", x.bribe(4095), 0);
        due("none of the others would", x.bribe(1), 0);

        says("CONTRACT: of SETS of just quota MEMBERS that by which, each of it being paid his cost if he COMES, the fewest coins"
                + " are paid;");
        x = club(FOUR);
        due("contract(0)", x.contract(0), 1 + 3);
        due("contract(1)", x.contract(1), 1 + 8);

        says("of like ones the least;");
        x = club("quota 2;dinner 0;member never cost 1;member never cost 1;member never cost 1;");
        due("like ones", x.contract(0), 2);
        due("the least of them", x.contract(1), 3);
        x = club("quota 1;dinner 0;member never cost 999;member never cost 998;member never cost 998;");
        due("like ones", x.contract(0), 998);
        due("the least of them", x.contract(1), 2);

        says("it is safe whatever others do.");
        // So each has his cost, whatever the dinner would bring, and whoever comes.
        for (int dinner : new int[] {0, 6, 999}) {
            x = weeks("quota 2;dinner " + dinner + ";member always cost 5;member never cost 2;member learns cost 3;", 7);
            due("contract(0) by dinner " + dinner, x.contract(0), 5);
            due("contract(1) by dinner " + dinner, x.contract(1), 6);
        }
    }

    // ---- promises 17 to 21

    private static void gaining() {
        promise(17);
        says("GAIN.");
        NobodysTuesday x = club("quota 12;dinner 999;" + "member never cost 999;".repeat(11) + never(1));
        due("gain(2047, 11)", x.gain(2047, 11), 999);
        due("gain(4095, 11)", x.gain(4095, 11), -999);
        due("gain(4095, 0)", x.gain(4095, 0), 0);
        due("gain(1, 0)", x.gain(1, 0), 999);
        due("gain(0, 0)", x.gain(0, 0), -999);
        for (int m : new int[] {-1, 4, 12, LEAST, MOST}) {
            refused("gain(0, " + m + ")", ELEMENT, y -> y.gain(0, m));
            // This one is told first.
            refused("gain(16, " + m + ")", ELEMENT, y -> y.gain(16, m));
        }
        refused("gain(0, 0) of nobody", ELEMENT, NEW, y -> y.gain(0, 0));
        refused("gain(1, 0) of nobody", ELEMENT, NEW, y -> y.gain(1, 0));

        says("IllegalArgumentException: a SET with others (as everywhere).");
        for (int set : new int[] {16, 31, 4096, -1, -16, LEAST, MOST}) {
            refused("gain(" + set + ", 0)", ARGUMENT, y -> y.gain(set, 0));
            refused("gain(" + set + ", 3)", ARGUMENT, y -> y.gain(set, 3));
        }
        refused("gain(4096, 0) of twelve", ARGUMENT, has(never(12)), y -> y.gain(4096, 0));
        due("gain(15, 3)", made(Rows::rich).gain(15, 3), 3);
    }

    private static void resting() {
        promise(18);
        says("Whether a SET is at REST.");
        due("nobody", new NobodysTuesday().rests(0), true);
        due("rests(4095)", club("quota 12;" + never(12)).rests(4095), true);
        due("rests(2047)", club("quota 12;" + never(12)).rests(2047), false);
        setsWithOthers("rests", NobodysTuesday::rests);

        promise(19);
        says("The k-th SET at REST, the least first;");
        kth(club("quota 2;dinner 10;member never cost 3;member never cost 12;member never;"), 0, 5);
        kth(new NobodysTuesday(), 0);
        kth(club("quota 1;dinner 2;member never cost 2;member never cost 1;"), 1, 2);
        // He who pays 3 for 2 never comes; the other always does better.
        kth(club("quota 1;dinner 2;member never cost 3;member never;"), 2);
        kth(club("quota 3;dinner 2;member never cost 3;"), 0);
        kth(club("quota 12;" + "member never cost 1;".repeat(12)), 0, 4095);
        NobodysTuesday x = club("quota 1;" + never(12));
        due("rest(0)", x.rest(0), 1);
        due("rest(4093)", x.rest(4093), 4094);

        says("k NONE: how many;");
        due("rest(-1)", x.rest(-1), 4095);
        due("rest(-1)", new NobodysTuesday().rest(NONE), 1);
        due("rest(-1)", club("quota 12;dinner 1;" + "member never cost 1;".repeat(12)).rest(-1), 2);

        says("NONE: not so many.");
        due("rest(4094)", x.rest(4094), 4095);
        dueOf("rest", x::rest, NONE, 4095, 4096, MOST, -2, LEAST);
        dueOf("rest", new NobodysTuesday()::rest, NONE, 1, 2, MOST, -2, LEAST);
    }

    private static void kth(NobodysTuesday x, int... sets) {
        due("rest(-1)", x.rest(-1), sets.length);
        for (int k = 0; k < sets.length; k++) {
            due("rest(" + k + ")", x.rest(k), sets[k]);
        }
        due("rest(" + sets.length + ")", x.rest(sets.length), NONE);
    }

    private static void strongSets() {
        promise(20);
        says("Whether a SET is STRONG.");
        NobodysTuesday x = club("quota 2;dinner 4;" + never(4));
        int[] strong = {3, 5, 6, 9, 10, 12, 7, 11, 13, 14, 15};
        for (int set = 0; set < 16; set++) {
            boolean is = false;
            for (int one : strong) {
                is |= one == set;
            }
            due("strong(" + set + ")", x.strong(set), is);
        }
        due("nobody", new NobodysTuesday().strong(0), true);
        setsWithOthers("strong", NobodysTuesday::strong);

        promise(21);
        says("The k-th STRONG SET, the least first;");
        // All of 0, 1, 2, 4, 7 rest (who has no cost may come in vain); by 1, 2, 4 two would dine.
        x = club("quota 3;dinner 4;" + never(3));
        due("rest(-1)", x.rest(-1), 5);
        dues("strongs", x::strongs, 0, 0, 7);

        says("k NONE: how many;");
        due("strongs(-1)", x.strongs(-1), 2);
        due("strongs(-1)", new NobodysTuesday().strongs(NONE), 1);
        // Only where 10 of twelve come would two more be just quota.
        due("strongs(-1)", club("quota 12;" + never(12)).strongs(-1), 4096 - 12 - 66);
        // By that of nobody two would dine; of all others but 3 somebody leaves.
        due("strongs(-1)", club("quota 2;dinner 4;member never cost 3;member never cost 3;member never cost 5;").strongs(-1), 1);

        says("NONE: not so many.");
        dueOf("strongs", x::strongs, NONE, 2, 3, MOST, -2, LEAST);
        due("strongs(1) of nobody", new NobodysTuesday().strongs(1), NONE);
        x = club("quota 1;" + never(12));
        due("strongs(4094)", x.strongs(4094), 4095);
        due("strongs(4095)", x.strongs(4095), NONE);
    }

    // ---- promises 22 to 24

    private static void inTurns() {
        promise(22);
        says("TURNS by numbers: who COMES (bits).");
        due("all twelve", club("quota 12;" + never(12)).inTurn(), 4095);
        due("eleven of twelve", club("quota 11;" + never(12)).inTurn(), 2047);
        due("first of twelve", club("quota 1;" + never(12)).inTurn(), 1);
        due("the first who has more than 0", club("quota 1;member never cost 10;" + never(11)).inTurn(), 2);
        due("the last two", club("quota 2;" + "member never cost 10;".repeat(10) + never(2)).inTurn(), 3072);
        due("one too few", club("quota 12;member never cost 10;" + never(11)).inTurn(), 0);
        due("nobody", new NobodysTuesday().inTurn(), 0);
        leaves("inTurn", 0, Rows::rich, y -> {
            y.inTurn();
            return 0;
        });
    }

    private static void byTray() {
        promise(23);
        says("TURNS in the order of a TRAY, what 0: who COMES, 1: the first in that order who does (NONE).");
        NobodysTuesday x = club(THREE);
        fill(x, 3, 1, 2, 1, 0);
        due("turnsBy(3, 0)", x.turnsBy(3, 0), 5);
        due("turnsBy(3, 1)", x.turnsBy(3, 1), 2);
        x.quota(3);
        due("turnsBy(3, 0)", x.turnsBy(3, 0), 0);
        due("turnsBy(3, 1)", x.turnsBy(3, 1), NONE);
        x.quota(1);
        fill(x, 0, 0, 1, 2, 0);
        due("turnsBy(0, 0)", x.turnsBy(0, 0), 4);
        due("turnsBy(0, 1)", x.turnsBy(0, 1), 2);
        fill(x, 0, 3, 1, 0, 2);
        due("turnsBy(0, 0)", x.turnsBy(0, 0), 1);
        due("turnsBy(0, 1)", x.turnsBy(0, 1), 0);
        x = club("quota 2;" + never(12));
        fill(x, 0, 0, 11, 10, 9, 8, 7, 6, 5, 4, 3, 2, 1, 0);
        due("turnsBy(0, 0) of twelve", x.turnsBy(0, 0), 3072);
        due("turnsBy(0, 1) of twelve", x.turnsBy(0, 1), 11);
        x = club("quota 12;member never cost 10;" + never(11));
        fill(x, 0, 0, 11, 10, 9, 8, 7, 6, 5, 4, 3, 2, 1, 0);
        due("turnsBy(0, 0), if one of twelve would not", x.turnsBy(0, 0), 0);
        due("turnsBy(0, 1), if one of twelve would not", x.turnsBy(0, 1), NONE);
        x = new NobodysTuesday();
        x.tray(0, 0, 0);
        due("turnsBy(0, 0) of nobody", x.turnsBy(0, 0), 0);
        due("turnsBy(0, 1) of nobody", x.turnsBy(0, 1), NONE);
        x = club("quota 1;member never;");
        x.tray(0, 0, 1);
        due("turnsBy(0, 0) of one", x.turnsBy(0, 0), 1);

        says("NoSuchElementException: no such TRAY;");
        for (int tray : new int[] {-1, 4, LEAST, MOST}) {
            refused("turnsBy(" + tray + ", 0)", ELEMENT, y -> y.turnsBy(tray, 0));
            // This one is told first.
            refused("turnsBy(" + tray + ", 2)", ELEMENT, y -> y.turnsBy(tray, 2));
        }

        says("IllegalStateException: it is MISSING;");
        for (int tray : new int[] {1, 3}) {
            refused("turnsBy(" + tray + ", 0)", STATE, y -> y.turnsBy(tray, 0));
            // This one is told ahead of another what, and of not each MEMBER once.
            refused("turnsBy(" + tray + ", 2)", STATE, y -> y.turnsBy(tray, 2));
        }

        says("IllegalArgumentException: it has not each MEMBER once,");
        long[][] orders = {{}, {0}, {0, 1}, {0, 1, 2, 2}, {0, 1, 2, 3}, {0, 1, 1}, {0, 0, 2}, {1, 2, 3}, {0, 1, 3}, {0, 1, -1},
                {-1, 1, 2}, {0, 1, (1L << 32) + 2}, {0, 1, 34}, {0, 1, Long.MIN_VALUE}, {0, 1, Long.MAX_VALUE}};
        for (long[] order : orders) {
            for (int what = 0; what <= 1; what++) {
                int asked = what;
                refused("turnsBy(1, " + what + ") of " + order.length + " places", ARGUMENT, filled(THREE, 1, order),
                        y -> y.turnsBy(1, asked));
            }
        }
        refused("turnsBy(0, 0) of nobody", ARGUMENT, filled("", 0, 0), y -> y.turnsBy(0, 0));
        refused("turnsBy(0, 0) of 60 places", ARGUMENT, y -> {
            read(y, never(12));
            y.tray(0, 0, 60);
        }, y -> y.turnsBy(0, 0));

        says("another what.");
        anotherWhat("turnsBy(0)", 0, 1, (y, what) -> y.turnsBy(0, what));
        anotherWhat("turnsBy(2)", 0, 1, (y, what) -> y.turnsBy(2, what));
    }

    private static void twos() {
        promise(24);
        says("The k-th number of TWO at REST, the least first;");
        NobodysTuesday x = club("quota 1;dinner 3;member never;member never cost 1;");
        due("two(1, 3, 0)", x.two(1, 3, 0), 5);
        due("two(1, 3, 1)", x.two(1, 3, 1), 7);
        due("dinner 0", x.two(12, 0, 0), 1);
        due("nobody", new NobodysTuesday().two(1, 1, 0), 0);

        says("k NONE: how many;");
        due("two(1, 3, -1)", x.two(1, 3, -1), 2);
        due("two of nobody", new NobodysTuesday().two(12, 999, NONE), 1);
        due("two of eight", club(never(8)).two(12, 0, NONE), 6305);

        says("NONE: not so many.");
        dueOf("two(1, 3, k)", k -> x.two(1, 3, k), NONE, 2, 3, MOST, -2, LEAST);
        due("two(1, 1, 1) of nobody", new NobodysTuesday().two(1, 1, 1), NONE);
        due("two(12, 0, 6304) of eight", club(never(8)).two(12, 0, 6304) != NONE, true);
        due("two(12, 0, 6305) of eight", club(never(8)).two(12, 0, 6305), NONE);

        says("IllegalArgumentException: quota isn't 1 to 12,");
        notThrown("two(1, 0, 0)", made(Rows::rich), y -> y.two(1, 0, 0));
        notThrown("two(12, 999, 0)", made(Rows::rich), y -> y.two(12, 999, 0));
        for (int quota : new int[] {0, -1, 13, LEAST, MOST}) {
            refused("two(" + quota + ", 1, 0)", ARGUMENT, y -> y.two(quota, 1, 0));
        }

        says("dinner 0 to 999;");
        for (int dinner : new int[] {-1, 1000, LEAST, MOST}) {
            refused("two(1, " + dinner + ", 0)", ARGUMENT, y -> y.two(1, dinner, 0));
        }
        notThrown("two(1, 0, 0)", made(Rows::rich), y -> y.two(12, 0, 0));
        notThrown("two(12, 999, 0)", made(Rows::rich), y -> y.two(1, 999, 0));
        // This one is told first.
        refused("two(0, 1, 0) of nine", ARGUMENT, has(never(9)), y -> y.two(0, 1, 0));
        refused("two(13, 1, 0) of nine", ARGUMENT, has(never(9)), y -> y.two(13, 1, 0));
        refused("two(1, -1, 0) of nine", ARGUMENT, has(never(9)), y -> y.two(1, -1, 0));
        refused("two(1, 1000, 0) of nine", ARGUMENT, has(never(9)), y -> y.two(1, 1000, 0));

        says("IllegalStateException: more than 8 MEMBERS.");
        notThrown("two(1, 1, 0) of eight", club(never(8)), y -> y.two(1, 1, 0));
        refused("two(1, 1, 0) of nine", STATE, has(never(9)), y -> y.two(1, 1, 0));
        refused("two(12, 999, -1) of nine", STATE, has(never(9)), y -> y.two(12, 999, -1));
        refused("two(1, 0, -1) of twelve", STATE, has(never(12)), y -> y.two(1, 0, -1));
    }

    // ---- promises 25 to 27

    private static void best() {
        promise(25);
        says("Of SETS at REST that with the greatest PAY of all together, the least;");
        due("0 and 3 for 4 coins", club(FOUR).bestRest(), 9);
        due("the least of like ones", club("quota 1;dinner 5;member never cost 2;member never cost 2;").bestRest(), 1);
        due("the greater one of two", club("quota 1;dinner 5;member never cost 2;member never cost 1;").bestRest(), 2);
        due("not all who don't pay", club("quota 1;dinner 5;" + never(3)).bestRest(), 1);
        due("nobody, for else they lose", club("quota 2;member never cost 1;").bestRest(), 0);
        due("all twelve", club("quota 12;dinner 999;" + never(12)).bestRest(), 4095);
        // What is not at REST may have more: 1 of 2 would dine by himself, and leaves for it costs more.
        due("only those at REST", club("quota 2;dinner 10;member never cost 11;member never;").bestRest(), 0);

        says("NONE: there is none.");
        // There always is one; the nearest to none is that of nobody.
        due("nobody", new NobodysTuesday().bestRest(), 0);
        due("none would come", club("quota 1;dinner 0;" + "member never cost 1;".repeat(12)).bestRest(), 0);
    }

    private static void payingAndPivots() {
        promise(26);
        says("PAY of all MEMBERS together in a SET.");
        NobodysTuesday x = club("quota 2;dinner 7;member never cost 3;member never cost 9;member never;");
        dues("pay", x::pay, 0, 0, -3, -9, 2, 0, 11, 5, -12);
        due("pay(4095)", club("quota 12;dinner 999;" + never(12)).pay(4095), 12 * 999);
        due("pay(4095)", club("quota 11;dinner 999;" + "member never cost 999;".repeat(12)).pay(4095), -12 * 999);
        due("nobody", new NobodysTuesday().pay(0), 0);
        setsWithOthers("pay", NobodysTuesday::pay);

        promise(27);
        says("MEMBERS (bits) by whose doing the other thing alone it would MEET, if it does not, or not, if it does.");
        dues("pivots", x::pivots, 0, 0, 6, 5, 7, 3, 7, 7, 7);
        x.quota(3);
        dues("pivots by quota 3", x::pivots, 0, 0, 0, 0, 4, 0, 2, 1, 7);
        x.quota(1);
        dues("pivots by quota 1", x::pivots, 0, 7, 7, 7, 3, 7, 5, 6, 0);
        x.quota(4);
        dues("pivots by quota 4", x::pivots, 0, 0, 0, 0, 0, 0, 0, 0, 0);
        due("pivots(4095)", club("quota 12;" + never(12)).pivots(4095), 4095);
        due("pivots(2047)", club("quota 12;" + never(12)).pivots(2047), 2048);
        due("nobody", new NobodysTuesday().pivots(0), 0);
        setsWithOthers("pivots", NobodysTuesday::pivots);
    }

    // ---- promises 28 to 31

    private static void replying() {
        promise(28);
        says("REPLIES from a SET, what 0: the SET at REST in the end, 1: how many did the other thing;");
        NobodysTuesday x = club(FOUR);
        int[][] replies = {{0, 0, 0}, {1, 0, 1}, {2, 3, 1}, {15, 12, 2}, {14, 12, 1}, {5, 5, 0}};
        for (int[] row : replies) {
            due("replies(" + row[0] + ", 0)", x.replies(row[0], 0), row[1]);
            due("replies(" + row[0] + ", 1)", x.replies(row[0], 1), row[2]);
        }
        due("all leave but one", club("quota 1;" + "member never cost 1;".repeat(12)).replies(4095, 0), 2048);
        due("all leave but one", club("quota 1;" + "member never cost 1;".repeat(12)).replies(4095, 1), 11);
        due("nobody", new NobodysTuesday().replies(0, 0), 0);
        due("nobody", new NobodysTuesday().replies(0, 1), 0);

        says("NONE: it never is.");
        // It always is in the end; of twelve from any SET, too.
        x = club("quota 6;dinner 10;" + "member never cost 1;member never cost 99;".repeat(6));
        for (int i = 0; i < 200; i++) {
            int set = i * 20 + 15;
            due("replies(" + set + ", 0) rests", x.rests(x.replies(set, 0)), true);
            due("replies(" + set + ", 1) is NONE", x.replies(set, 1) == NONE, false);
        }

        says("IllegalArgumentException: also another what.");
        setsWithOthers("replies, 0", (y, set) -> y.replies(set, 0));
        setsWithOthers("replies, 1", (y, set) -> y.replies(set, 1));
        anotherWhat("replies(0)", 0, 1, (y, what) -> y.replies(0, what));
        anotherWhat("replies(16)", 0, 1, (y, what) -> y.replies(16, what));
    }

    private static void bribing() {
        promise(29);
        says("BRIBE.");
        NobodysTuesday x = club("quota 2;dinner 5;member never cost 9;member never cost 7;member never;");
        // In 4: 0 and 1 would lose by coming (GAIN -4, -2), 2 has nothing by leaving.
        dues("bribe", x::bribe, 0, 0, 9 + 5, 7 + 5, 4 + 2, 0, 4, 2, 16);
        due("nobody", new NobodysTuesday().bribe(0), 0);
        setsWithOthers("bribe", NobodysTuesday::bribe);

        promise(30);
        says("Of all SETS of just quota MEMBERS the least BRIBE (what 0), the first such SET (1);");
        x = club(FOUR);
        due("leastBribe(0)", x.leastBribe(0), 0);
        due("leastBribe(1)", x.leastBribe(1), 3);
        x = club("quota 2;dinner 5;member never cost 9;member never cost 7;member never cost 5;");
        due("leastBribe(0)", x.leastBribe(0), 2);
        due("leastBribe(1)", x.leastBribe(1), 6);
        x.quota(3);
        due("all", x.leastBribe(0), 6);
        due("all", x.leastBribe(1), 7);
        x = club("quota 1;dinner 5;member never cost 9;member never cost 8;member never cost 8;");
        due("the first of like ones", x.leastBribe(0), 3);
        due("the first of like ones", x.leastBribe(1), 2);

        says("NONE: there are none.");
        x.quota(3);
        due("just as many", x.leastBribe(0), 4 + 3 + 3);
        due("just as many", x.leastBribe(1), 7);
        x.quota(4);
        dues("leastBribe", x::leastBribe, 0, NONE, NONE);
        dues("leastBribe of nobody", new NobodysTuesday()::leastBribe, 0, NONE, NONE);

        says("IllegalArgumentException: another what.");
        anotherWhat("leastBribe", 0, 1, NobodysTuesday::leastBribe);
        refused("leastBribe(2) of nobody", ARGUMENT, NEW, y -> y.leastBribe(2));
    }

    private static void contracting() {
        promise(31);
        says("CONTRACT, what 0: coins, 1: the SET;");
        NobodysTuesday x = club("quota 2;dinner 0;member never cost 5;member never cost 2;member never cost 3;");
        dues("contract", x::contract, 0, 5, 6);
        x.quota(1);
        dues("contract", x::contract, 0, 2, 2);
        x = club("quota 12;dinner 0;" + "member never cost 999;".repeat(12));
        dues("contract", x::contract, 0, 12 * 999, 4095);
        x = club("quota 2;" + never(3));
        dues("contract", x::contract, 0, 0, 3);

        says("NONE: there are fewer than quota MEMBERS.");
        x.quota(3);
        dues("contract", x::contract, 0, 0, 7);
        x.quota(4);
        dues("contract", x::contract, 0, NONE, NONE);
        dues("contract of nobody", new NobodysTuesday()::contract, 0, NONE, NONE);

        says("IllegalArgumentException: another what.");
        anotherWhat("contract", 0, 1, NobodysTuesday::contract);
        refused("contract(2) of nobody", ARGUMENT, NEW, y -> y.contract(2));
    }
}
