/** DOUBTS, COOKS (terms), and promises 41 to 47. */
final class PastRows extends Rows {
    private static final String TWO = "quota 1;member never;member never;";
    private static final String HATS =
            "member always;member never umbrella;member always;member hats 2;member sees 1;member same;";

    static void all() {
        doubtsTerm();
        cooksTerm();
        streak();
        tallyAndFriends();
        doubts();
        cook();
        guess();
    }

    // ---- terms

    private static void doubtsTerm() {
        promise(0);
        says("DOUBTS of a MEMBER with hats or sees in a WEEK that went by: in how many ways the HATS of that WEEK (each seen or not;"
                + " of a WEEK told, too) would have let him do what he did.");
        NobodysTuesday x = weeks(HATS, 1 + 8, 4 + 16, 0);
        due("fewer than 2 of 2 seen", x.doubts(3, 0), 3);
        due("not just 1 of 3 seen", x.doubts(4, 0), 5);
        due("not fewer than 2 of 2 seen", x.doubts(3, 1), 1);
        due("just 1 of 2 seen", x.doubts(4, 1), 2);
        due("1 HAT can't be 2", x.doubts(3, 2), 0);
        due("not just 1 of 1 seen", x.doubts(4, 2), 1);
        x = club("fog 100;" + HATS);
        due("a WEEK in fog", x.week(3), 1 + 4 + 8);
        due("fewer than 2 of 3 seen", x.doubts(3, 0), 1 + 3);
        due("not just 1 of 4 seen", x.doubts(4, 0), 1 + 6 + 4 + 1);
        // One who has an umbrella and comes has one HAT.
        due("one HAT", weeks("member always umbrella;member sees 1;", 3).doubts(1, 0), 1);
        // His own HAT, and those behind him, are not seen by him.
        due("no HAT", weeks("member sees 1 umbrella;member always;", 3).doubts(0, 0), 0);
        due("no HAT", weeks("member sees 0 umbrella;member always;", 3).doubts(0, 0), 1);
        // All numbers of HATS and all N of twelve MEMBERS.
        long[] ways = {1, 11, 55, 165, 330, 462, 462, 330, 165, 55, 11, 1, 0};
        long fewer = 0;
        for (int n = 0; n <= 12; n++) {
            String last = " " + n + ";";
            due("came by sees" + last, weeks(never(11) + "member sees" + last, 4095).doubts(11, 0), ways[n]);
            due("stayed by sees" + last, weeks(never(11) + "member sees" + last, 2047).doubts(11, 0), 2048 - ways[n]);
            due("came by hats" + last, weeks(never(11) + "member hats" + last, 4095).doubts(11, 0), fewer);
            due("stayed by hats" + last, weeks(never(11) + "member hats" + last, 2047).doubts(11, 0), 2048 - fewer);
            fewer += ways[n];
        }
    }

    private static void cooksTerm() {
        says("COOKS guess how many COME, in WEEKS that went by, from WEEK 1 on:");
        cooks(weeks("quota 2;" + never(3)), 0, 0, 0, 0);
        cooks(weeks("quota 2;" + never(3), 7), 0, 0, 0, 0);
        cooks(weeks("quota 2;" + never(3), 7, 0), 3, 3, 3, 2);

        says("0 as many as LAST WEEK;");
        NobodysTuesday x = club(never(4));
        int[] sets = {1, 15, 0, 7, 3};
        int[] many = {1, 4, 0, 3, 2};
        for (int i = 0; i < 5; i++) {
            x.told(sets[i]);
            due("guess(0) behind WEEK " + i, x.guess(0), many[i]);
        }
        due("cook(0)", x.cook(0), 3 + 4 + 3 + 1);

        says("1 the mean of all WEEKS ahead of it, cut;");
        x = club(never(4));
        // 1, 5 / 2, 5 / 3, 8 / 4, 10 / 5
        int[] means = {1, 2, 1, 2, 2};
        for (int i = 0; i < 5; i++) {
            x.told(sets[i]);
            due("guess(1) behind WEEK " + i, x.guess(1), means[i]);
        }
        due("cook(1)", x.cook(1), 3 + 2 + 2 + 0);
        due("11 of 4", weeks(never(3), 7, 7, 7, 3).guess(1), 2);
        due("12 of 4", weeks(never(3), 7, 7, 7, 7).guess(1), 3);
        due("1 of 2", weeks(never(3), 0, 1).guess(1), 0);

        says("2 the number that came most often ahead of it, the least of like ones;");
        x = club(never(4));
        sets = new int[] {15, 3, 12, 15, 1, 2, 4, 0, 0, 0};
        // 4; 4, 2; 4, 2, 2; two of each; ..; 1 three times; 0 as often.
        int[] often = {4, 2, 2, 2, 2, 1, 1, 1, 1, 0};
        for (int i = 0; i < 10; i++) {
            x.told(sets[i]);
            due("guess(2) behind WEEK " + i, x.guess(2), often[i]);
        }
        due("cook(2)", x.cook(2), 2 + 0 + 2 + 1 + 1 + 0 + 1 + 1 + 1);
        due("all twelve", weeks(never(12), 4095).guess(2), 12);

        says("3 quota.");
        x = weeks("quota 5;" + never(3), 7, 0, 3);
        due("guess(3)", x.guess(3), 5);
        due("cook(3)", x.cook(3), 5 + 3);
        x.quota(12);
        due("guess(3)", x.guess(3), 12);
        due("cook(3)", x.cook(3), 12 + 10);
        x.quota(1);
        due("cook(3)", x.cook(3), 1 + 1);

        says("SCORE: how far off all guesses were together.");
        cooks(weeks("quota 1;" + never(2), 1, 3, 2, 1, 0, 1, 2), 4, 2, 2, 2);
        cooks(weeks("quota 2;" + never(3), 7, 0, 0, 7, 7, 3), 7, 9, 10, 6);
        x = club("quota 1;" + never(12));
        for (int i = 0; i < 60; i++) {
            x.told(i % 2 == 0 ? 4095 : 0);
        }
        due("cook(0) of 60 WEEKS", x.cook(0), 59 * 12);
        due("cook(3) of 60 WEEKS", x.cook(3), 30 * 1 + 29 * 11);
    }

    private static void cooks(NobodysTuesday x, long... scores) {
        dues("cook", x::cook, 0, scores);
    }

    // ---- promises 41 to 44

    private static void streak() {
        promise(41);
        says("The longest row of WEEKS one behind the other in which it MET (what 0), its first WEEK, the first such (1; NONE).");
        NobodysTuesday x = weeks(TWO, 1, 3, 2, 1, 0, 1, 2);
        dues("two rows of 2", x::streak, 0, 2, 2);
        x.told(1);
        dues("the last row is longer", x::streak, 0, 3, 5);
        x.quota(2);
        dues("by another quota", x::streak, 0, 1, 1);
        x.quota(3);
        dues("it never MET", x::streak, 0, 0, NONE);
        dues("from WEEK 0 on", weeks(TWO, 1, 2, 0, 1)::streak, 0, 2, 0);
        dues("no WEEK", new NobodysTuesday()::streak, 0, 0, NONE);
        dues("one WEEK", weeks(TWO, 2)::streak, 0, 1, 0);
        dues("one WEEK", weeks(TWO, 3)::streak, 0, 0, NONE);
        x = club(TWO);
        for (int i = 0; i < 60; i++) {
            x.told(1);
        }
        dues("60 WEEKS", x::streak, 0, 60, 0);
        x.back(1);
        dues("59 WEEKS", x::streak, 0, 59, 0);

        says("IllegalArgumentException: another what.");
        for (int what : new int[] {-1, 2, LEAST, MOST}) {
            refused("streak(" + what + ")", ARGUMENT, y -> y.streak(what));
            refused("streak(" + what + ") of no WEEK", ARGUMENT, NEW, y -> y.streak(what));
        }
    }

    private static void tallyAndFriends() {
        promise(42);
        says("WEEKS in which just k came.");
        NobodysTuesday x = weeks(TWO, 1, 3, 2, 1, 0, 1, 2);
        dues("tally", x::tally, -1, 0, 1, 5, 1, 0);
        dueOf("tally", x::tally, 0, -2, 3, 12, 13, LEAST, MOST);
        dues("tally of no WEEK", new NobodysTuesday()::tally, -1, 0, 0, 0);
        NobodysTuesday y = club(never(12));
        for (int i = 0; i < 60; i++) {
            y.told(4095);
        }
        dues("tally of 60 WEEKS", y::tally, 11, 0, 60, 0);

        promise(43);
        says("WEEKS in which two MEMBERS both came.");
        due("together(0, 1)", x.together(0, 1), 1);
        due("together(1, 0)", x.together(1, 0), 1);
        due("together(0, 0)", x.together(0, 0), 4);
        due("together(1, 1)", x.together(1, 1), 3);
        due("together(0, 11) of 60 WEEKS", y.together(0, 11), 60);
        due("together(0, 1) of no WEEK", club(never(2)).together(0, 1), 0);
        for (int m : new int[] {-1, 4, 12, LEAST, MOST}) {
            refused("together(0, " + m + ")", ELEMENT, z -> z.together(0, m));
            refused("together(" + m + ", 0)", ELEMENT, z -> z.together(m, 0));
            refused("together(" + m + ", " + m + ")", ELEMENT, z -> z.together(m, m));
        }

        promise(44);
        says("The two who came together most often, 100 times the lesser one and the other, the first;");
        due("friends", x.friends(), 1);
        due("of all alike the first", y.friends(), 1);
        x = weeks(never(3), 6);
        due("1 and 2", x.friends(), 102);
        x.told(3);
        due("of two alike the first", x.friends(), 1);
        x.told(6);
        due("most often", x.friends(), 102);
        due("0 and 3 ahead of 1 and 2", weeks(never(4), 6, 9).friends(), 3);
        due("1 and 2 ahead of 1 and 3", weeks(never(4), 10, 6).friends(), 102);
        due("the last two", weeks(never(12), 3072).friends(), 1011);
        due("the first and the last", weeks(never(12), 2049).friends(), 11);

        says("NONE: none ever did.");
        due("one each", weeks(never(3), 1, 2, 4, 0).friends(), NONE);
        due("no WEEK", club(never(12)).friends(), NONE);
        due("nobody", new NobodysTuesday().friends(), NONE);
        due("one alone", weeks(never(1), 1).friends(), NONE);
        x.back(3);
        due("WEEKS that were not", x.friends(), NONE);
    }

    // ---- promises 45 to 47

    private static void doubts() {
        promise(45);
        says("DOUBTS;");
        NobodysTuesday x = weeks(HATS, 1 + 8, 4 + 16, 0);
        dues("doubts of 3", w -> x.doubts(3, w), 0, 3, 1, 0);
        dues("doubts of 4", w -> x.doubts(4, w), 0, 5, 2, 1);
        due("no HATS, he came", weeks("member sees 0;", 1).doubts(0, 0), 1);
        due("no HATS, he came", weeks("member sees 1;", 1).doubts(0, 0), 0);
        due("no HATS, he stayed", weeks("member hats 0;", 0).doubts(0, 0), 1);

        says("NONE: he has neither hats nor sees.");
        due("always", x.doubts(0, 0), NONE);
        due("never", x.doubts(1, 0), NONE);
        due("same", x.doubts(5, 2), NONE);
        NobodysTuesday others = weeks("member other;member under 1;member over 1;member every 1;member think 1;member learns;", 0);
        for (int m = 0; m < 6; m++) {
            due("doubts(" + m + ", 0)", others.doubts(m, 0), NONE);
        }

        says("NoSuchElementException: no such MEMBER,");
        Deed one = has(HATS, 1);
        for (int m : new int[] {-1, 6, 12, LEAST, MOST}) {
            refused("doubts(" + m + ", 0)", ELEMENT, one, y -> y.doubts(m, 0));
            refused("doubts(" + m + ", 1)", ELEMENT, one, y -> y.doubts(m, 1));
        }

        says("NoSuchElementException: no such MEMBER, WEEK.");
        for (int week : new int[] {-1, 1, 60, LEAST, MOST}) {
            refused("doubts(3, " + week + ")", ELEMENT, one, y -> y.doubts(3, week));
            // Of one with neither hats nor sees, too, where else NONE is answered.
            refused("doubts(0, " + week + ")", ELEMENT, one, y -> y.doubts(0, week));
        }
        due("doubts(1, 3)", made(Rows::rich).doubts(1, 3), 1);
    }

    private static void cook() {
        promise(46);
        says("SCORE of a COOK (0 to 3).");
        cooks(weeks("quota 2;" + never(3), 7, 0, 0, 7), 6, 6, 6, 5);
        cooks(weeks("quota 12;" + never(12), 4095, 4095, 4095), 0, 0, 0, 0);
        cooks(new NobodysTuesday(), 0, 0, 0, 0);

        says("IllegalArgumentException: no such COOK.");
        for (int c : new int[] {-1, 4, LEAST, MOST}) {
            refused("cook(" + c + ")", ARGUMENT, y -> y.cook(c));
            refused("cook(" + c + ") of no WEEK", ARGUMENT, NEW, y -> y.cook(c));
        }
    }

    private static void guess() {
        promise(47);
        says("What a COOK guesses for the WEEK now;");
        dues("guess", weeks("quota 2;" + never(3), 7, 0, 0, 7, 7, 3)::guess, 0, 2, 1, 3, 2);
        dues("guess", weeks("quota 2;" + never(3), 7, 0, 0, 7)::guess, 0, 3, 1, 0, 2);
        dues("guess", weeks("quota 2;" + never(3), 7)::guess, 0, 3, 3, 3, 2);
        dues("guess at WEEK 60", made(WeekRows::sixty)::guess, 0, 3, 1, 2, 2);

        says("NONE: WEEK is 0.");
        dues("guess", club("quota 2;" + never(3))::guess, 0, NONE, NONE, NONE, NONE);
        dues("guess", new NobodysTuesday()::guess, 0, NONE, NONE, NONE, NONE);
        NobodysTuesday x = weeks("quota 2;" + never(3), 7);
        x.back(1);
        dues("guess behind back(1)", x::guess, 0, NONE, NONE, NONE, NONE);

        says("IllegalArgumentException: no such COOK.");
        for (int c : new int[] {-1, 4, LEAST, MOST}) {
            refused("guess(" + c + ")", ARGUMENT, y -> y.guess(c));
            refused("guess(" + c + ") at WEEK 0", ARGUMENT, NEW, y -> y.guess(c));
        }
    }
}
