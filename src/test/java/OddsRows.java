import java.util.Arrays;

/** ODDS, BEST ODDS, CHANCES (terms), and promises 32 to 35. */
final class OddsRows extends Rows {
    private static final String FOUR =
            "quota 2;dinner 10;member always cost 1;member same cost 4;member other cost 4;member think 1 cost 3;";
    private static final long ALL_OF_TWELVE = 4096000000000000L;

    static void all() {
        terms();
        odds();
        bestOdds();
        chances();
        hope();
    }

    private static void terms() {
        promise(0);
        says("ODDS for a of b (b 1 to 20, a 0 to b):");
        NobodysTuesday x = club(never(4));
        due("odds(0, 1, 0)", x.odds(0, 1, 0), 1);
        due("odds(1, 1, 4)", x.odds(1, 1, 4), 1);
        due("odds(0, 20, 0)", x.odds(0, 20, 0), 160000);
        due("odds(20, 20, 4)", x.odds(20, 20, 4), 160000);
        refused("odds(0, 0, 0)", ARGUMENT, y -> y.odds(0, 0, 0));
        refused("odds(0, 21, 0)", ARGUMENT, y -> y.odds(0, 21, 0));
        refused("odds(-1, 20, 0)", ARGUMENT, y -> y.odds(-1, 20, 0));
        refused("odds(21, 20, 0)", ARGUMENT, y -> y.odds(21, 20, 0));
        refused("odds(2, 1, 0)", ARGUMENT, y -> y.odds(2, 1, 0));

        says("each MEMBER COMES with the chance a / b, each by himself: ways of b to the number of MEMBERS in which just k COME.");
        dues("odds 1 of 3", k -> x.odds(1, 3, k), 0, 16, 32, 24, 8, 1);
        dues("odds 2 of 3", k -> x.odds(2, 3, k), 0, 1, 8, 24, 32, 16);
        dues("odds 0 of 1", k -> x.odds(0, 1, k), 0, 1, 0, 0, 0, 0);
        dues("odds 1 of 1", k -> x.odds(1, 1, k), 0, 0, 0, 0, 0, 1);
        dues("odds 0 of 20", k -> x.odds(0, 20, k), 0, 160000, 0, 0, 0, 0);
        dues("odds 20 of 20", k -> x.odds(20, 20, k), 0, 0, 0, 0, 0, 160000);
        dues("odds 19 of 20", k -> x.odds(19, 20, k), 0, 1, 4 * 19, 6 * 361, 4 * 6859, 130321);

        says("BEST ODDS for b: the least a by which it MEETS in most ways.");
        // Just one of two: 0, 4, 4, 0 ways by a of 3.
        due("the least of like ones", club(never(2)).bestOdds(3), 1);
        due("no ways at all", club("quota 3;" + never(2)).bestOdds(20), 0);
        due("quota is all", club("quota 3;" + never(3)).bestOdds(20), 20);

        says("CHANCES in a TRAY (as many numbers as MEMBERS, each 0 to b):");
        due("0s", made(filled(never(3), 1, 0, 0, 0)).chances(1, 5, 0), 125);
        due("b", made(filled(never(3), 1, 5, 5, 5)).chances(1, 5, 3), 125);
        refused("b and 1", ARGUMENT, filled(never(3), 1, 5, 6, 5), y -> y.chances(1, 5, 3));
        refused("less than 0", ARGUMENT, filled(never(3), 1, 5, 5, -1), y -> y.chances(1, 5, 3));
        refused("one number fewer", ARGUMENT, filled(never(3), 1, 5, 5), y -> y.chances(1, 5, 2));
        refused("one number more", ARGUMENT, filled(never(3), 1, 5, 5, 5, 0), y -> y.chances(1, 5, 3));

        says("MEMBER i COMES with number i of b.");
        NobodysTuesday three = club(never(3));
        fill(three, 2, 0, 1, 2, 0);
        // 1 / 3, 2 / 3, never: both stay by 2 x 1 x 3 ways, and so on.
        dues("chances of 3", k -> three.chances(2, 3, k), 0, 6, 15, 6, 0);
        dues("chances of 2", k -> three.chances(2, 2, k), 0, 0, 4, 4, 0);
        dues("chances of 20", k -> three.chances(2, 20, k), 0, 19 * 18 * 20, (18 + 38) * 20, 2 * 20, 0);
    }

    private static void odds() {
        promise(32);
        says("ODDS.");
        NobodysTuesday x = club(never(12));
        due("all twelve", x.odds(20, 20, 12), ALL_OF_TWELVE);
        due("nobody of twelve", x.odds(0, 20, 0), ALL_OF_TWELVE);
        due("half of twelve", x.odds(10, 20, 6), 924000000000000L);
        for (int a = 0; a <= 20; a++) {
            long sum = 0;
            for (int k = 0; k <= 12; k++) {
                sum += x.odds(a, 20, k);
            }
            due("ways by " + a + " of 20 together", sum, ALL_OF_TWELVE);
        }
        due("nobody at all", new NobodysTuesday().odds(3, 7, 0), 1);
        due("one", club(never(1)).odds(3, 7, 1), 3);
        due("one", club(never(1)).odds(3, 7, 0), 4);

        says("IllegalArgumentException: a,");
        for (int a : new int[] {-1, 3, 4, LEAST, MOST}) {
            refused("odds(" + a + ", 2, 0)", ARGUMENT, y -> y.odds(a, 2, 0));
            // Other k's 0 is for odds that there are.
            refused("odds(" + a + ", 2, 9)", ARGUMENT, y -> y.odds(a, 2, 9));
        }

        says("IllegalArgumentException: a, b.");
        for (int b : new int[] {0, -1, 21, LEAST, MOST}) {
            refused("odds(0, " + b + ", 0)", ARGUMENT, y -> y.odds(0, b, 0));
            refused("odds(1, " + b + ", 0)", ARGUMENT, y -> y.odds(1, b, 0));
        }
        refused("odds(2, 1, 0)", ARGUMENT, y -> y.odds(2, 1, 0));
        refused("odds(21, 20, 0)", ARGUMENT, y -> y.odds(21, 20, 0));
        refused("odds(21, 21, 0)", ARGUMENT, y -> y.odds(21, 21, 0));
        refused("odds(0, 0, -1)", ARGUMENT, y -> y.odds(0, 0, -1));
        refused("odds(-1, -1, 0)", ARGUMENT, y -> y.odds(-1, -1, 0));
        due("odds(1, 1, 4)", made(Rows::rich).odds(1, 1, 4), 1);
        due("odds(20, 20, 4)", made(Rows::rich).odds(20, 20, 4), 160000);

        says("(0 for other k.)");
        NobodysTuesday four = club(never(4));
        dueOf("odds 1 of 2", k -> four.odds(1, 2, k), 0, -1, 5, 12, 13, LEAST, MOST);
        due("nobody: k 1", new NobodysTuesday().odds(1, 2, 1), 0);
        due("nobody: k -1", new NobodysTuesday().odds(1, 2, -1), 0);
        due("twelve: k 13", x.odds(1, 2, 13), 0);
    }

    private static void bestOdds() {
        promise(33);
        says("BEST ODDS.");
        NobodysTuesday x = club("quota 2;" + never(4));
        dues("two of four", x::bestOdds, 1, 0, 1, 1, 2, 2, 3);
        due("two of four", x.bestOdds(20), 10);
        x.quota(4);
        due("all", x.bestOdds(20), 20);
        due("all", x.bestOdds(1), 1);
        x.quota(5);
        due("too few", x.bestOdds(20), 0);
        x = club("quota 1;" + never(3));
        due("one of three", x.bestOdds(3), 1);
        due("one of three", x.bestOdds(20), 7);
        due("six of twelve", club("quota 6;" + never(12)).bestOdds(20), 10);
        due("nobody", new NobodysTuesday().bestOdds(20), 0);

        says("IllegalArgumentException: b.");
        for (int b : new int[] {0, -1, 21, LEAST, MOST}) {
            refused("bestOdds(" + b + ")", ARGUMENT, y -> y.bestOdds(b));
            refused("bestOdds(" + b + ") of nobody", ARGUMENT, NEW, y -> y.bestOdds(b));
        }
    }

    private static void chances() {
        String three = never(3);
        promise(34);
        says("By CHANCES of b: in how many ways of b to the number of MEMBERS just k COME.");
        NobodysTuesday x = club(never(12));
        fill(x, 0, 1, 10, 10, 10, 10, 10, 10, 10, 10, 10, 10, 10, 10);
        due("half of twelve", x.chances(0, 20, 6), 924000000000000L);
        due("all of twelve", x.chances(0, 10, 12), 1000000000000L);
        due("eleven of twelve", x.chances(0, 10, 11), 0);
        fill(x, 3, 0, 20, 20, 20, 20, 20, 20, 20, 20, 20, 20, 20, 20);
        due("all twelve", x.chances(3, 20, 12), ALL_OF_TWELVE);
        fill(x, 3, 0, 0, 1, 2, 3, 4, 5, 6, 7, 8, 9, 10, 11);
        long sum = 0;
        for (int k = 0; k <= 12; k++) {
            sum += x.chances(3, 20, k);
        }
        due("all ways of twelve", sum, ALL_OF_TWELVE);
        due("never all, for one never comes", x.chances(3, 20, 12), 0);
        due("all of the others", x.chances(3, 20, 11), 20L * 39916800);
        NobodysTuesday nobody = new NobodysTuesday();
        nobody.tray(0, 0, 0);
        dues("chances of nobody", k -> nobody.chances(0, 20, k), -1, 0, 1, 0);
        NobodysTuesday few = club(three);
        fill(few, 1, 2, 0, 1, 1);
        dueOf("chances of 1", k -> few.chances(1, 1, k), 0, 0, 1, 3, 4, -1, 13, LEAST, MOST);
        due("chances of 1", few.chances(1, 1, 2), 1);

        says("NoSuchElementException: no such TRAY;");
        for (int tray : new int[] {-1, 4, LEAST, MOST}) {
            refused("chances(" + tray + ", 3, 0)", ELEMENT, y -> y.chances(tray, 3, 0));
            // This one is told first.
            refused("chances(" + tray + ", 0, 0)", ELEMENT, y -> y.chances(tray, 0, 0));
        }

        says("IllegalStateException: it is MISSING;");
        for (int tray : new int[] {1, 3}) {
            refused("chances(" + tray + ", 3, 0)", STATE, y -> y.chances(tray, 3, 0));
            // This one is told ahead of b.
            refused("chances(" + tray + ", 0, 0)", STATE, y -> y.chances(tray, 0, 0));
            refused("chances(" + tray + ", 21, 0)", STATE, y -> y.chances(tray, 21, 0));
        }

        says("IllegalArgumentException: b,");
        for (int b : new int[] {0, -1, 21, LEAST, MOST}) {
            refused("chances(0, " + b + ", 0)", ARGUMENT, y -> y.chances(0, b, 0));
            refused("chances(1, " + b + ", 0) of 0s", ARGUMENT, filled(three, 1, 0, 0, 0), y -> y.chances(1, b, 0));
        }

        says("not as many numbers,");
        refusedOf(new long[][] {{}, {1}, {1, 2}, {1, 2, 0, 0}, {0, 0, 0, 0, 0}});
        refused("chances(0, 1, 0) of nobody", ARGUMENT, filled("", 0, 0), y -> y.chances(0, 1, 0));
        refused("chances(0, 1, 0) of 60 for twelve", ARGUMENT, y -> {
            read(y, never(12));
            y.tray(0, 0, 60);
        }, y -> y.chances(0, 1, 0));

        says("one isn't 0 to b.");
        refusedOf(new long[][] {{4, 0, 0}, {0, 0, 4}, {0, -1, 0}, {0, (1L << 32) + 1, 0}, {0, 0, Long.MIN_VALUE},
                {Long.MAX_VALUE, 0, 0}});
        due("each of 3 may be 3", made(filled(three, 1, 3, 0, 3)).chances(1, 3, 2), 27);
        due("each of 20 may be 20", made(filled(three, 1, 20, 0, 20)).chances(1, 20, 2), 8000);
        refused("chances(1, 19, 2)", ARGUMENT, filled(three, 1, 20, 0, 20), y -> y.chances(1, 19, 2));
    }

    /** TRAYS that are no CHANCES of 3 for three MEMBERS; for a k that there isn't, too. */
    private static void refusedOf(long[][] numbers) {
        for (long[] row : numbers) {
            String call = "of " + Arrays.toString(row);
            refused("chances(1, 3, 0) " + call, ARGUMENT, filled(never(3), 1, row), y -> y.chances(1, 3, 0));
            refused("chances(1, 3, 9) " + call, ARGUMENT, filled(never(3), 1, row), y -> y.chances(1, 3, 9));
        }
    }

    private static void hope() {
        promise(35);
        says("PAY of a MEMBER on average, if he COMES and all others with a / b: the whole coins, cut downward (what 0), the rest"
                + " as ways of b to the number of MEMBERS less 1 (1).");
        NobodysTuesday x = club(FOUR);
        // One of the three others comes by 3 of 8 ways: 30 coins less 8 times the cost.
        hoped("22 of 8", x, 0, 1, 2, 2, 6);
        hoped("-2 of 8", x, 1, 1, 2, -1, 6);
        hoped("6 of 8", x, 3, 1, 2, 0, 6);
        hoped("nobody else comes", x, 0, 0, 3, -1, 0);
        hoped("all others come", x, 1, 3, 3, -4, 0);
        x = club("quota 1;dinner 7;member never cost 2;");
        hoped("alone", x, 0, 1, 20, 5, 0);
        hoped("alone", x, 0, 0, 1, 5, 0);
        x.quota(2);
        hoped("alone in vain", x, 0, 1, 20, -2, 0);
        x = club("quota 12;dinner 999;" + never(11) + "member never cost 999;");
        hoped("all others are sure", x, 0, 20, 20, 999, 0);
        hoped("all others are sure", x, 11, 20, 20, 0, 0);
        hoped("one way of 20 to the 11th", x, 0, 1, 20, 0, 999);
        hoped("one way of 20 to the 11th", x, 11, 1, 20, -999, 999);
        hoped("19 of 20, each", x, 0, 19, 20, 568, 999 * 116490258898219L - 568 * 204800000000000L);
        // -3 coins of 2 ways are -2 whole ones and a rest of 1.
        hoped("-3 of 2", club("quota 2;dinner 1;member never cost 2;member never;"), 0, 1, 2, -2, 1);

        for (int m : new int[] {-1, 4, 12, LEAST, MOST}) {
            refused("hope(" + m + ", 1, 2, 0)", ELEMENT, y -> y.hope(m, 1, 2, 0));
            // This one is told first.
            refused("hope(" + m + ", 3, 2, 2)", ELEMENT, y -> y.hope(m, 3, 2, 2));
            refused("hope(" + m + ", 0, 0, 0)", ELEMENT, y -> y.hope(m, 0, 0, 0));
        }
        refused("hope(0, 1, 2, 0) of nobody", ELEMENT, NEW, y -> y.hope(0, 1, 2, 0));

        says("IllegalArgumentException: a,");
        for (int a : new int[] {-1, 3, LEAST, MOST}) {
            refused("hope(0, " + a + ", 2, 0)", ARGUMENT, y -> y.hope(0, a, 2, 0));
        }
        refused("hope(0, 21, 20, 0)", ARGUMENT, y -> y.hope(0, 21, 20, 0));

        says("IllegalArgumentException: a, b,");
        for (int b : new int[] {0, -1, 21, LEAST, MOST}) {
            refused("hope(0, 0, " + b + ", 0)", ARGUMENT, y -> y.hope(0, 0, b, 0));
        }

        says("another what.");
        for (int what : new int[] {-1, 2, LEAST, MOST}) {
            refused("hope(3, 1, 2, " + what + ")", ARGUMENT, y -> y.hope(3, 1, 2, what));
        }
        due("hope(3, 20, 20, 0)", made(Rows::rich).hope(3, 20, 20, 0), -3);
        due("hope(3, 0, 1, 1)", made(Rows::rich).hope(3, 0, 1, 1), 0);
    }

    private static void hoped(String row, NobodysTuesday x, int m, int a, int b, long coins, long rest) {
        due(row + ", hope(" + m + ", " + a + ", " + b + ", 0)", x.hope(m, a, b, 0), coins);
        due(row + ", hope(" + m + ", " + a + ", " + b + ", 1)", x.hope(m, a, b, 1), rest);
    }
}
