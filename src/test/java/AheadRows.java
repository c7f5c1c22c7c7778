/** AHEAD, RING, BEST RULE (terms), and promises 36 to 40. */
final class AheadRows extends Rows {
    private static final String TEXT = "fog 100;member other;member every 3;member always cost 1;";
    // WEEKS 0 to 3 differ for LAST WEEK, then it goes on by what every says: 396 WEEKS.
    private static final String LONG_RING = "member always;member over 0;member over 1;member over 2;"
            + "member every 4;member every 9;member every 11;";

    static void all() {
        aheadTerm();
        ringTerm();
        bestRuleTerm();
        ahead();
        ring();
        worth();
        bestQuota();
        bestRule();
    }

    private static void ringOf(NobodysTuesday x, int length, int behind) {
        due("ring(0)", x.ring(0), length);
        due("ring(1)", x.ring(1), behind);
    }

    private static void bestRuleOf(NobodysTuesday x, int m, int n, int... due) {
        for (int what = 0; what < 3; what++) {
            due("bestRule(" + m + ", " + n + ", " + what + ")", x.bestRule(m, n, what), due[what]);
        }
    }

    // ---- terms

    private static void aheadTerm() {
        promise(0);
        says("AHEAD for n WEEKS (1 to 60,");
        due("ahead(1, 100)", club("member always;").ahead(1, 100), 1);
        due("ahead(60, 0)", club("member always;").ahead(60, 0), 60);
        refused("ahead(0, 0)", ARGUMENT, y -> y.ahead(0, 0));
        refused("ahead(61, 0)", ARGUMENT, y -> y.ahead(61, 0));
        refused("worth(0, 0)", ARGUMENT, y -> y.worth(0, 0));
        refused("worth(0, 61)", ARGUMENT, y -> y.worth(0, 61));
        refused("bestQuota(0)", ARGUMENT, y -> y.bestQuota(0));
        refused("bestQuota(61)", ARGUMENT, y -> y.bestQuota(61));

        says("without fog,");
        NobodysTuesday x = club("fog 100;member always;member hats 1;member sees 1;");
        due("ahead(1, 100) without fog", x.ahead(1, 100), 5);
        due("ahead(60, 159) without fog", x.ahead(60, 159), 5);
        due("week in fog", x.week(7), 3);
        due("ahead(60, 0) without fog", club("quota 2;fog 100;member always;member sees 1;").ahead(60, 0), 60);

        says("beyond WEEK 60, too):");
        x = made(WeekRows::sixty);
        dues("WEEK 60 on", k -> made(WeekRows::sixty).ahead(13, 100 + k), 0, 5, 6, 4, 6, 4, 6, 4, 6, 4, 6, 4, 6, 5);
        due("WEEK 119", x.ahead(60, 159), 6);
        due("WEEK", x.count(5), 60);

        says("as they would go by.");
        // What is learnt of WEEKS ahead is learnt as of those that went by: 2, -1, 1, ..
        dues("ahead of 4", k -> club("quota 2;dinner 5;member every 2;member learns cost 3;").ahead(4, k), 100, 1, 2, 1, 2);
        // 1, -3, -2, ..
        dues("ahead of 6", k -> club("quota 2;dinner 5;member every 2;member learns cost 4;").ahead(6, k), 100, 1, 2, 1, 0, 1, 0);
        // -4 of a WEEK that went by, then 1, -3, ..
        dues("ahead of 3", k -> weeks("quota 2;dinner 5;member every 2;member learns cost 4;", 0).ahead(3, k), 100, 0, 1, 0);
        String all = "quota 2;member same;member other;member under 2;member over 1;member every 3;member hats 2;member sees 3;"
                + "member think 1;member think 2;";
        NobodysTuesday goes = weeks(all, 5);
        for (int k = 0; k < 20; k++) {
            int ahead = weeks(all, 5).ahead(20, 100 + k);
            due("WEEK " + k, goes.week(k), ahead);
        }
    }

    private static void ringTerm() {
        says("RING: AHEAD goes on till LAST WEEK and WEEK modulo M come again as they were sometime from now on");
        ringOf(new NobodysTuesday(), 1, 0);
        ringOf(club("member always;"), 1, 1);
        ringOf(club("member other;"), 2, 0);
        ringOf(weeks("member same;", 1), 1, 0);
        ringOf(club("member same;"), 1, 0);
        ringOf(weeks("member never;", 1), 1, 1);
        ringOf(weeks("member other;member never;", 2), 2, 1);
        // LAST WEEK alone doesn't do: 0, 0 come one behind the other.
        ringOf(club("member every 3;"), 3, 0);
        // 0: 1, 2, 3, 6, then 7, 6 by turns.
        ringOf(club("member other;member over 0;member over 1;"), 2, 4);

        says("(NONE, if a MEMBER learns;");
        ringOf(club("member learns;"), NONE, NONE);
        ringOf(club("member never;".repeat(11) + "member learns cost 999;"), NONE, NONE);
        // One of a club before does not.
        ringOf(made(y -> {
            read(y, "member other;member learns;");
            read(y, "member other;member learns;");
            read(y, "member other;");
        }), 2, 0);

        says("M is the least number that N of every MEMBER with every divides;");
        ringOf(club("member every 3;member every 4;"), 12, 0);
        ringOf(club("member every 6;member every 4;"), 12, 0);
        ringOf(club("member every 12;member every 12;"), 12, 0);
        ringOf(club("member every 1;member every 3;"), 3, 1);
        ringOf(club("member every 1;"), 1, 1);
        ringOf(club("member other;member every 3;"), 6, 0);
        ringOf(weeks("member other;member every 2;", 1), 2, 1);
        // By WEEK 8 the row goes on in the midst of M, 12.
        ringOf(weeks("member every 12;member never;", 0, 0, 0, 0, 0, 0, 0, 0), 12, 0);
        ringOf(weeks("member every 12;member never;", 0, 0, 0, 0, 0, 0, 0, 2), 12, 1);
        ringOf(club("member every 5;member every 7;member every 9;"), 315, 0);
        ringOf(club("member every 5;member every 8;member every 9;"), 360, 0);
        ringOf(club(never(11) + "member every 12;"), 12, 0);
        // One of a club before has no share in M.
        ringOf(made(y -> {
            read(y, "member other;member every 12;");
            read(y, "member other;member every 12;");
            read(y, "member other;");
        }), 2, 0);

        says("1 without such):");
        ringOf(club("member hats 7;member under 0;member think 0;member sees 11;"), 1, 1);
        ringOf(club(never(12)), 1, 0);
        ringOf(new NobodysTuesday(), 1, 0);

        says("it is as long as there are WEEKS between;");
        ringOf(club("member other;"), 2, 0);
        ringOf(club("member every 11;member every 12;"), 132, 0);
        ringOf(club("member every 11;member every 9;member every 4;"), 396, 0);

        says("NONE, if not within 400 WEEKS.");
        NobodysTuesday x = club(LONG_RING);
        x.told(0);
        ringOf(x, 396, 4);
        x = club(LONG_RING + "member over 3;");
        x.told(0);
        ringOf(x, NONE, NONE);
        ringOf(club("member every 7;member every 8;member every 9;"), NONE, NONE);
        ringOf(club("member every 5;member every 7;member every 8;member every 9;member every 11;"), NONE, NONE);
    }

    private static void bestRuleTerm() {
        says("BEST RULE of a MEMBER for n WEEKS (1 to 30):");
        due("bestRule(0, 1, 2)", club("quota 1;dinner 5;member never;").bestRule(0, 1, 2), 5);
        due("bestRule(0, 30, 2)", club("quota 1;dinner 5;member never;").bestRule(0, 30, 2), 150);
        refused("bestRule(0, 0, 2)", ARGUMENT, y -> y.bestRule(0, 0, 2));
        refused("bestRule(0, 31, 2)", ARGUMENT, y -> y.bestRule(0, 31, 2));

        says("that by which his PAY of n WEEKS AHEAD were greatest, had he it from now on (cost, umbrella as they are);");
        NobodysTuesday x = club("quota 1;dinner 5;member every 2;member never cost 2;");
        bestRuleOf(x, 1, 4, 7, 1, 6);
        due("his RULE stays", x.member(1, 0), 1);
        // From WEEK 1 on other comes and stays by turns, just when it pays.
        x.told(0);
        bestRuleOf(x, 1, 4, 3, 0, 6);
        // WEEKS that went by have no share: in WEEK 0 he dined.
        bestRuleOf(weeks("quota 1;dinner 5;member never cost 9;member never;", 1), 0, 2, 1, 0, 0);
        // His umbrella keeps the other one away: without it there would be two.
        bestRuleOf(club("quota 1;dinner 5;member never cost 2 umbrella;member sees 0;"), 0, 4, 0, 0, 12);
        bestRuleOf(club("quota 2;dinner 5;member never cost 2 umbrella;member sees 1;"), 0, 4, 0, 0, 12);
        bestRuleOf(club("quota 2;dinner 5;member never cost 2;member sees 1;"), 0, 4, 0, 0, 12);

        // By learning he stays in WEEK 1, then comes: 4, -1, 4.
        bestRuleOf(weeks("quota 2;dinner 5;member under 1;member under 2;member never cost 1;", 4), 2, 4, 10, 0, 7);
        // As one thought of him: 3, -2.
        bestRuleOf(weeks("quota 2;dinner 5;member never cost 2;member other;member every 3;", 5), 0, 4, 9, 1, 1);

        says("of like ones the first by RULES (0 to 10), then by N.");
        bestRuleOf(club("quota 1;dinner 5;member never cost 2;"), 0, 3, 0, 0, 9);
        bestRuleOf(club("quota 2;dinner 5;member never;"), 0, 3, 0, 0, 0);
        bestRuleOf(club("quota 2;dinner 5;member never cost 2;"), 0, 1, 1, 0, 0);
        bestRuleOf(club("quota 1;dinner 5;member always;member never cost 2;"), 1, 4, 1, 0, 0);
        // He is ahead of the other, so that no HAT tells him anything.
        bestRuleOf(club("quota 1;dinner 5;member never cost 9;member always;"), 0, 4, 1, 0, 0);
        // every 2 and sees 1 are alike.
        bestRuleOf(weeks("quota 2;dinner 5;member every 2;member never cost 1;member never cost 9;", 7, 1, 0), 1, 4, 6, 2, 8);
        // Three others come every other WEEK; he has more by coming behind those WEEKS: over 1, over 2, hats 1 to 3 are alike.
        String three = "dinner 5;member every 2;member every 2;member every 2;member never cost 1;";
        bestRuleOf(club("quota 1;" + three), 3, 4, 5, 1, 8);
        // He has more by coming with them: under 1 to under 3, every 2, sees 3 are alike.
        bestRuleOf(weeks("quota 4;" + three, 7), 3, 4, 4, 1, 8);
    }

    // ---- promises

    private static void ahead() {
        promise(36);
        says("AHEAD, what 0: WEEKS in which it MEETS, 1: who never COMES (bits), 2: who always COMES, 100 + k: who COMES in the"
                + " k-th of these WEEKS (from 0 on).");
        NobodysTuesday x = club(TEXT);
        dues("ahead of 7", k -> club(TEXT).ahead(7, k), 100, 7, 4, 5, 6, 5, 4, 7);
        due("ahead(6, 0)", x.ahead(6, 0), 2);
        due("ahead(2, 0)", x.ahead(2, 0), 1);
        due("ahead(1, 0)", x.ahead(1, 0), 0);
        due("ahead(7, 1)", x.ahead(7, 1), 0);
        due("ahead(7, 2)", x.ahead(7, 2), 4);
        due("ahead(1, 2)", x.ahead(1, 2), 7);
        due("ahead(1, 1)", x.ahead(1, 1), 0);
        x.told(7);
        due("ahead(1, 1)", x.ahead(1, 1), 3);
        due("ahead(2, 1)", x.ahead(2, 1), 2);
        due("ahead(2, 2)", x.ahead(2, 2), 4);
        due("ahead(60, 0)", club("quota 1;member always;").ahead(60, 0), 60);
        due("ahead(60, 2)", club("member always;".repeat(12)).ahead(60, 2), 4095);
        due("ahead(60, 1)", club(never(12)).ahead(60, 1), 4095);
        for (int what = 0; what <= 2; what++) {
            due("ahead(60, " + what + ") of nobody", new NobodysTuesday().ahead(60, what), 0);
        }
        leaves("ahead(60, 0)", 0, Rows::rich, y -> y.ahead(60, 0) * 0);

        says("IllegalArgumentException: n,");
        for (int n : new int[] {0, -1, 61, LEAST, MOST}) {
            refused("ahead(" + n + ", 0)", ARGUMENT, y -> y.ahead(n, 0));
            refused("ahead(" + n + ", 100)", ARGUMENT, y -> y.ahead(n, 100));
        }

        says("another what (100 to 99 + n).");
        for (int what : new int[] {-1, 3, 4, 99, 102, 103, LEAST, MOST}) {
            refused("ahead(2, " + what + ")", ARGUMENT, y -> y.ahead(2, what));
        }
        refused("ahead(1, 101)", ARGUMENT, y -> y.ahead(1, 101));
        refused("ahead(60, 160)", ARGUMENT, y -> y.ahead(60, 160));
        refused("ahead(60, 99)", ARGUMENT, y -> y.ahead(60, 99));
        due("ahead(2, 101)", x.ahead(2, 101), 5);
        due("ahead(1, 100)", x.ahead(1, 100), 4);
        due("ahead(60, 159)", x.ahead(60, 159), 7);
    }

    private static void ring() {
        promise(37);
        says("RING, what 0: how long it is, 1: behind how many WEEKS it begins; NONE.");
        // 8: 4, 12, 6, 14, then 7, 15 by turns.
        ringOf(weeks("member over 2;member over 1;member over 0;member other;", 8), 2, 5);
        ringOf(club("member always;member over 0;member over 1;"), 1, 3);
        ringOf(club("member learns;"), NONE, NONE);
        leaves("ring(1)", 0, NEW, y -> y.ring(1));

        says("IllegalArgumentException: another what.");
        for (int what : new int[] {-1, 2, LEAST, MOST}) {
            refused("ring(" + what + ")", ARGUMENT, y -> y.ring(what));
            // Of who learns, too, where else NONE is answered.
            refused("ring(" + what + ") of who learns", ARGUMENT, has("member learns;"), y -> y.ring(what));
        }
    }

    private static void worth() {
        promise(38);
        says("By how many more of n WEEKS AHEAD it MEETS than if a MEMBER had the RULE never (and no umbrella; LAST WEEK being as"
                + " it was).");
        NobodysTuesday x = club("quota 1;member never umbrella;member sees 1;");
        due("without his umbrella", x.worth(0, 5), 5);
        due("without his umbrella", club("quota 1;member never;member never umbrella;member sees 1;").worth(1, 5), 5);
        due("worth(1, 60)", x.worth(1, 60), 60);
        due("worth(1, 1)", x.worth(1, 1), 1);
        due("who never comes", club("quota 1;member never;member always;").worth(0, 9), 0);
        x = club("quota 1;dinner 5;member learns cost 2;member never;");
        due("learns from his first week on", x.worth(0, 4), 3);
        x = weeks("quota 1;member never;member over 0;", 1);
        due("LAST WEEK as it was", x.worth(0, 9), 0);
        x = club("quota 1;member always;member always;");
        due("one too many", x.worth(1, 7), -7);
        due("one too many", x.worth(0, 60), -60);
        due("he stays as he is", x.member(1, 0), 0);
        // What others learnt of him in WEEKS that went by they know yet.
        due("who learnt that he came", weeks("quota 2;dinner 5;member always;member learns cost 1;", 1, 1).worth(0, 2), 2);
        for (int m : new int[] {-1, 4, 12, LEAST, MOST}) {
            refused("worth(" + m + ", 1)", ELEMENT, y -> y.worth(m, 1));
            // This one is told first.
            refused("worth(" + m + ", 0)", ELEMENT, y -> y.worth(m, 0));
            refused("worth(" + m + ", 61)", ELEMENT, y -> y.worth(m, 61));
        }
        leaves("worth(2, 60)", 0, Rows::rich, y -> y.worth(2, 60) * 0);

        says("IllegalArgumentException: n.");
        for (int n : new int[] {0, -1, 61, LEAST, MOST}) {
            refused("worth(0, " + n + ")", ARGUMENT, y -> y.worth(0, n));
        }
    }

    private static void bestQuota() {
        promise(39);
        says("The quota (1 to 12) by which it MEETS in most of n WEEKS AHEAD, the least.");
        NobodysTuesday x = club("quota 12;member always;member always;member every 2;");
        due("3", x.bestQuota(1), 3);
        due("3, 2: the least", x.bestQuota(2), 2);
        due("3, 2, 3", x.bestQuota(3), 3);
        due("30 of 60 each", x.bestQuota(60), 2);
        due("the quota stays", x.count(1), 12);
        due("1, 2, 1", weeks("quota 5;member always;member every 2;", 0).bestQuota(3), 1);
        due("by none it does", new NobodysTuesday().bestQuota(60), 1);
        due("by none it does", club("quota 7;" + never(12)).bestQuota(60), 1);
        due("all twelve", club("member always;".repeat(12)).bestQuota(1), 12);
        due("one alone", club("quota 5;member always;").bestQuota(60), 1);
        // By quota 1 and by quota 2 he learns to come, so that they are two.
        due("nothing learnt", club("quota 3;member always;member learns cost 1;").bestQuota(1), 1);
        due("what is learnt", weeks("quota 3;member always;member learns cost 1;", 1, 0).bestQuota(3), 2);
        // By quota 3 he learns to come, so that they are three; else they are two, too.
        due("what is learnt", weeks("quota 3;member always;member always;member learns cost 1;", 3).bestQuota(3), 2);
        leaves("bestQuota(60)", 0, Rows::rich, y -> y.bestQuota(60) * 0);

        says("IllegalArgumentException: n.");
        for (int n : new int[] {0, -1, 61, LEAST, MOST}) {
            refused("bestQuota(" + n + ")", ARGUMENT, y -> y.bestQuota(n));
        }
    }

    private static void bestRule() {
        promise(40);
        says("BEST RULE, what 0: the RULE, 1: its N (0 without), 2: that PAY.");
        bestRuleOf(club("quota 1;dinner 5;member never cost 2;"), 0, 30, 0, 0, 90);
        bestRuleOf(club("quota 1;dinner 5;member never cost 2;"), 0, 1, 0, 0, 3);
        bestRuleOf(club("quota 2;dinner 999;member never cost 999;"), 0, 30, 1, 0, 0);
        bestRuleOf(club("quota 1;dinner 999;member never;"), 0, 30, 0, 0, 30 * 999);
        // Two of the four ahead of him come every 3rd WEEK.
        bestRuleOf(club("quota 3;dinner 5;member every 3;member every 3;member never cost 1;"), 2, 6, 6, 3, 8);
        // He comes, if just two of them do.
        bestRuleOf(club("quota 3;dinner 5;member always;member every 3;member every 2;member never cost 1;"), 3, 6, 8, 2, 12);
        for (int m : new int[] {-1, 4, 12, LEAST, MOST}) {
            refused("bestRule(" + m + ", 1, 0)", ELEMENT, y -> y.bestRule(m, 1, 0));
            // This one is told first.
            refused("bestRule(" + m + ", 0, 3)", ELEMENT, y -> y.bestRule(m, 0, 3));
            refused("bestRule(" + m + ", 31, -1)", ELEMENT, y -> y.bestRule(m, 31, -1));
        }
        leaves("bestRule(2, 30, 2)", 0, Rows::rich, y -> y.bestRule(2, 30, 2) * 0);

        says("IllegalArgumentException: n,");
        for (int n : new int[] {0, -1, 31, 60, LEAST, MOST}) {
            refused("bestRule(0, " + n + ", 0)", ARGUMENT, y -> y.bestRule(0, n, 0));
        }

        says("another what.");
        for (int what : new int[] {-1, 3, LEAST, MOST}) {
            refused("bestRule(0, 1, " + what + ")", ARGUMENT, y -> y.bestRule(0, 1, what));
            refused("bestRule(3, 30, " + what + ")", ARGUMENT, y -> y.bestRule(3, 30, what));
        }
    }
}
