/** WEEKS, RULES, HATS, FOG, PAY, THOUGHTS (terms), and promises 7 to 16. */
final class WeekRows extends Rows {
    static void all() {
        howManyWeeks();
        rulesAndLastWeek();
        rulesByNumber();
        hatsAtTheCorner();
        fogBySeed();
        fogByHats();
        payAndThoughts();
        goingBy();
        tellingAndBack();
        whatWentBy();
        hatsNow();
        thoughtsNow();
        settling();
        judging();
    }

    /** What goes by WEEK for WEEK, next() and week() alike. */
    private static void goes(String text, int... sets) {
        NobodysTuesday x = club(text);
        for (int i = 0; i < sets.length; i++) {
            due("next " + i + " of " + text, x.next(), sets[i]);
            due("week " + i + " of " + text, x.week(i * 77), sets[i]);
        }
    }

    private static void foggy(String text, int seed, int set) {
        due("week(" + seed + ") of " + text, club(text).week(seed), set);
    }

    /** At WEEK 60: a tenth and the last WEEKS differ from those around them. */
    static void sixty(NobodysTuesday x) {
        read(x, "quota 2;member every 12;member other;member over 0;member never;");
        for (int i = 0; i < 60; i++) {
            x.told(i % 16);
        }
    }

    private static int firstOnes(int many) {
        return (1 << many) - 1;
    }

    // ---- terms

    private static void howManyWeeks() {
        promise(0);
        says("WEEK is 0 at first,");
        NobodysTuesday x = new NobodysTuesday();
        due("WEEK of a new object", x.count(5), 0);
        due("WEEK of a new club", club("member always;").count(5), 0);

        says("60 at most.");
        for (int i = 0; i < 60; i++) {
            due("week " + i, x.week(i), 0);
            due("WEEK", x.count(5), i + 1);
        }
        thrown("the 61st week(0)", STATE, x, y -> y.week(0));
        due("WEEK", x.count(5), 60);
        x.back(1);
        due("told(0) for the 60th", x.told(0), false);
        thrown("told(0) for the 61st", STATE, x, y -> y.told(0));
        due("WEEK", x.count(5), 60);

        says("Before WEEK 0 nobody came (LAST WEEK).");
        due("same, other, under 1, over 0, think 0",
                club("member same;member other;member under 1;member over 0;member think 0;").next(), 2 + 4);
        x = weeks("member same;member other;member under 1;member over 0;member think 0;", 31);
        due("behind a WEEK in which all came", x.next(), 1 + 8 + 16);
        x.back(1);
        due("next before WEEK 0 again", x.next(), 2 + 4);
        due("DEPTH 0 before WEEK 0 again", x.thought(0, 0), false);
        x.told(31);
        read(x, "member same;member other;");
        due("next of a new club", x.next(), 2);
    }

    private static void rulesAndLastWeek() {
        says("In a WEEK each MEMBER, by numbers, COMES or not:");
        goes("member always;member never;member always;", 5, 5, 5);
        goes("", 0, 0);
        goes("member always;".repeat(12), 4095, 4095);
        goes(never(11) + "member always;", 2048, 2048);
        goes("member hats 1;member hats 1;member hats 1;", 1, 1);

        says("always;");
        NobodysTuesday x = club("quota 2;member always cost 999;");
        dueOf("week", x::week, 1, 0, 1, -1);
        x.told(0);
        due("next", x.next(), 1);

        says("never;");
        x = club("quota 1;dinner 999;member never;");
        dueOf("week", x::week, 0, 0, 1, -1);
        x.told(1);
        due("next", x.next(), 0);

        says("same: if he came LAST WEEK;");
        goes("member same;", 0, 0, 0);
        x = weeks("member same;member same;member always;", 2);
        due("week", x.week(0), 2 + 4);
        due("week", x.week(0), 2 + 4);
        x.told(1);
        due("week", x.week(0), 1 + 4);

        says("other: if he did not;");
        goes("member other;", 1, 0, 1, 0);
        x = weeks("member other;member other;member always;", 2);
        due("week", x.week(0), 1 + 4);
        due("week", x.week(0), 2 + 4);

        says("under N: if fewer than N came LAST WEEK;");
        byLastWeek("under", 1);
        goes("member under 1;member under 0;member under 2;", 5, 0, 5, 0);

        says("over N: if more;");
        byLastWeek("over", -1);
        goes("member other;member over 0;member over 1;", 1, 2, 3, 6);

        says("every N: if WEEK modulo N is 0;");
        StringBuilder text = new StringBuilder();
        for (int n = 1; n <= 12; n++) {
            text.append("member every ").append(n).append(";");
        }
        x = club(text.toString());
        for (int week = 0; week <= 60; week++) {
            int set = 0;
            for (int n = 1; n <= 12; n++) {
                set |= week % n == 0 ? 1 << n - 1 : 0;
            }
            due("next of WEEK " + week, x.next(), set);
            if (week < 60) {
                x.told(week);
            }
        }
    }

    /** A RULE by how many came LAST WEEK, 0 to 12 of 12, for each N: below (1), or above (-1). */
    private static void byLastWeek(String rule, int side) {
        for (int first = 0; first <= 1; first++) {
            StringBuilder text = new StringBuilder();
            for (int n = first; n < first + 12; n++) {
                text.append("member ").append(rule).append(" ").append(n).append(";");
            }
            NobodysTuesday x = club(text.toString());
            for (int came = 0; came <= 12; came++) {
                x.told(4095 >> 12 - came << 12 - came);
                int set = 0;
                for (int n = first; n < first + 12; n++) {
                    set |= side * Integer.compare(n, came) > 0 ? 1 << n - first : 0;
                }
                due(rule + " by " + came + " of LAST WEEK", x.next(), set);
            }
        }
    }

    private static void rulesByNumber() {
        says("hats N: if fewer than N HATS are seen by him;");
        for (int hats = 0; hats < 12; hats++) {
            for (int n = 0; n <= 12; n++) {
                int ahead = firstOnes(hats);
                String text = "member always;".repeat(hats) + "member hats " + n + ";";
                due("next of " + hats + " HATS, hats " + n, club(text).next(), hats < n ? ahead | 1 << hats : ahead);
            }
        }

        says("sees N: if just N are;");
        for (int hats = 0; hats < 12; hats++) {
            for (int n = 0; n <= 12; n++) {
                int ahead = firstOnes(hats);
                String text = "member always;".repeat(hats) + "member sees " + n + ";";
                due("next of " + hats + " HATS, sees " + n, club(text).next(), hats == n ? ahead | 1 << hats : ahead);
            }
        }

        says("think N: as a THOUGHT of DEPTH N says;");
        // Each would be the one who is wanted, if nobody thinks of coming, and so by turns.
        goes("member think 0;member think 1;member think 2;member think 3;member think 4;member think 5;member think 6;",
                2 + 8 + 32);
        goes("quota 1;member think 0;member think 1 cost 10;member think 1 cost 9;", 4, 4, 4);
        goes("quota 2;member always cost 30;member think 1;member think 2;", 1, 7, 1, 7);

        says("learns: if his PAY of all WEEKS that went by together, had he come in each of them, all others as they came,"
                + " were above 0.");
        goes("member learns;", 0, 1, 1);
        goes("quota 1;dinner 5;member learns cost 4;", 0, 1, 1);
        goes("quota 1;dinner 5;member learns cost 5;", 0, 0, 0);
        goes("quota 2;dinner 5;member learns;", 0, 0, 0);
        // Alone with a quota of 1 he would have dined in the 2nd WEEK, not in the 1st.
        goes("quota 1;dinner 5;member every 2;member learns cost 3;", 1, 0, 1, 0);
        goes("quota 2;dinner 5;member every 2;member learns cost 2;", 1, 2, 3, 2, 3);
        goes("quota 2;dinner 5;member every 2;member learns cost 3;", 1, 2, 1, 2);
        // 2 dinners of 6 and 4 times 3 coins are 0; of 7 they are 2.
        String text = "quota 2;member never;member learns cost 3;dinner ";
        due("12 less 12", weeks(text + "6;", 1, 3, 0, 2).next(), 0);
        due("14 less 12", weeks(text + "7;", 1, 3, 0, 2).next(), 2);
        due("18 less 9", weeks(text + "6;", 1, 3, 1).next(), 2);
        NobodysTuesday x = weeks("quota 2;dinner 5;member always;member learns cost 1;", 1);
        due("learns by quota 2", x.next(), 3);
        x.quota(1);
        due("learns by quota 1", x.next(), 1);
        x.back(1);
        x.quota(2);
        due("learns of no WEEK", x.next(), 1);
        // Two who learn: each holds the other as he came.
        due("each of two alone", weeks("quota 1;member learns;member learns;", 0).next(), 3);
        due("neither of two", weeks("quota 1;member learns cost 1;member learns cost 1;", 0, 3).next(), 3);
        due("neither of two", weeks("quota 1;dinner 2;member learns cost 1;member learns cost 1;", 0, 3).next(), 0);
        x = club("quota 12;dinner 999;member learns cost 999;");
        for (int i = 0; i < 60; i++) {
            x.told(i % 2);
        }
        due("60 WEEKS in vain", x.next(), 0);
        x.quota(1);
        due("60 dinners for as many coins", x.next(), 0);
        x = weeks("quota 1;dinner 999;member learns cost 998;");
        for (int i = 0; i < 60; i++) {
            x.told(0);
        }
        due("60 coins", x.next(), 1);
    }

    private static void hatsAtTheCorner() {
        says("HATS are those of MEMBERS with lesser numbers who COME this WEEK,");
        goes("member sees 0;member always;member sees 2;member sees 2;", 7, 7);
        goes("member never;member sees 0;", 2);
        goes("member other;member hats 1;member hats 2;member sees 1;member sees 0;", 1 + 4, 2 + 4, 1 + 4);
        // Of this WEEK, not of the last one.
        due("all came LAST WEEK", weeks("member never;member never;member sees 0;", 7).next(), 4);
        due("nobody came LAST WEEK", weeks("member always;member always;member sees 2;", 0).next(), 7);

        says("or have umbrella (who don't come, too: theirs stands at the corner).");
        goes("member never umbrella;member sees 1;", 2);
        goes("member always umbrella;member sees 1;", 3);
        goes("member sees 1 umbrella;member sees 1;", 2);
        goes("member never umbrella;member always umbrella;member sees 2;member hats 2;", 2 + 4);
        // His own, and those of MEMBERS with greater numbers, are not seen by him.
        goes("member sees 0 umbrella;member always umbrella;", 3);
        due("eleven umbrellas", club("member never umbrella;".repeat(11) + "member sees 11;").next(), 2048);
    }

    // ---- fog: the DRAWS modulo 100 were worked out apart

    private static void fogBySeed() {
        says("FOG by a SEED (x, an int; a DRAW: x becomes 1103515245 x + 12345, it is x >>> 16):");
        int[][] draws = {{0, 0, 36, 56, 85, 98}, {1, 38, 26, 13, 83, 19}, {2, 76, 17, 7, 82, 5}, {7, 32, 6, 68, 74, 31},
                {42, 49, 1, 37, 29, 24}, {-1, 97, 9, 62, 86, 13}, {MOST, 29, 77, 30, 18, 81}, {LEAST, 68, 68, 88, 17, 66},
                {123456789, 36, 63, 92, 85, 9}, {116, 99, 18, 41, 98, 51}, {154, 95, 20, 19, 13, 0}};
        for (int[] row : draws) {
            for (int fog : new int[] {0, 1, 10, 20, 30, 37, 50, 65, 69, 80, 90, 98, 99, 100}) {
                for (int hats = 1; hats <= 5; hats++) {
                    int seen = 0;
                    for (int i = 1; i <= hats; i++) {
                        seen += row[i] >= fog ? 1 : 0;
                    }
                    int ahead = firstOnes(hats);
                    String text = "fog " + fog + ";" + "member always;".repeat(hats);
                    foggy(text + "member sees " + seen + ";", row[0], ahead | 1 << hats);
                    foggy(text + "member hats " + seen + ";", row[0], ahead);
                    foggy(text + "member hats " + (seen + 1) + ";", row[0], ahead | 1 << hats);
                }
            }
        }
        NobodysTuesday x = club("fog 33;member always;member hats 1;member sees 1;");
        dueOf("week", x::week, 7, 7, 7, 7);
        // 29; 77, 30 of the highest SEED; 68; 68, 68, 88 of the least one.
        dueOf("week", x::week, 7, MOST);
        dueOf("week", x::week, 1 + 4, LEAST);
    }

    private static void fogByHats() {
        says("DRAW modulo 100: below fog it isn't seen.");
        foggy("fog 38;member always;member sees 1;", 1, 3);
        foggy("fog 39;member always;member sees 1;", 1, 1);
        foggy("fog 99;member always;member sees 1;", 116, 3);
        foggy("fog 100;member always;member sees 1;", 116, 1);
        foggy("fog 0;member always;member sees 1;", 0, 3);
        foggy("fog 1;member always;member sees 1;", 0, 1);

        says("for each HAT that there is (none of who stays without an umbrella)");
        // Who stays without an umbrella has no DRAW: 38 is of the one behind him.
        foggy("fog 38;member never;member always;member sees 1;", 1, 2 + 4);
        foggy("fog 38;member hats 0;member always;member sees 1;", 1, 2 + 4);
        // Whose umbrella stands there has one: 38, and 26 of the one behind him.
        foggy("fog 26;member never umbrella;member always;member sees 2;", 1, 2 + 4);
        foggy("fog 27;member never umbrella;member always;member sees 1;", 1, 2 + 4);
        // Who comes and has an umbrella has one HAT: 38, 26, not 13.
        foggy("fog 13;member always umbrella;member always;member sees 2;", 1, 7);

        says("and that a MEMBER with hats or sees might see, by numbers,");
        // For those who look at no HATS, or have none ahead, there is no DRAW.
        foggy("fog 38;member always;member always;member sees 1;", 1, 7);
        foggy("fog 38;member hats 1;member under 1;member sees 1;", 1, 7);
        foggy("fog 38;member sees 0;member sees 1;", 1, 3);
        foggy("fog 100;member sees 0;member hats 0;", 5, 1);
        // Each MEMBER with hats or sees has DRAWS of his own for the HATS ahead of him.
        String two = "member always;member hats 1;member sees 1;";
        foggy("fog 39;" + two, 1, 1 + 2);
        foggy("fog 38;" + two, 1, 1);
        foggy("fog 26;" + two, 1, 1 + 4);
        foggy("fog 33;" + two, 7, 1 + 2 + 4);
        foggy("fog 32;" + two, 7, 1);
        foggy("fog 98;" + two, -1, 1 + 2);
        foggy("fog 100;member always;member hats 1;", 5, 3);

        says("(Without fog asked for: all are seen, no DRAW.)");
        NobodysTuesday x = club("fog 100;member always;member hats 1;member sees 1;");
        due("next", x.next(), 1 + 4);
        due("hats(2)", x.hats(2), 1);
        due("ahead(1, 100)", x.ahead(1, 100), 1 + 4);
        fill(x, 0, 0, 1 + 4);
        due("judge(0, 0)", x.judge(0, 0), NONE);
        due("week", x.week(7), 1 + 2);
        due("next", x.next(), 1 + 4);
        foggy("member always;member hats 1;member sees 1;", 0, 1 + 4);
        foggy("fog 0;member always;member hats 1;member sees 1;", 0, 1 + 4);
    }

    // ---- terms again

    private static void payAndThoughts() {
        says("It MEETS, if just quota COME.");
        NobodysTuesday x = club(never(12));
        for (int quota = 1; quota <= 12; quota++) {
            x.quota(quota);
            for (int come = 0; come <= 12; come++) {
                due("told " + come + " by quota " + quota, x.told(4095 >> 12 - come << 12 - come), come == quota);
                x.back(1);
            }
        }
        due("nobody", club("quota 1;").told(0), false);

        says("PAY of who COMES: dinner, if it MEETS, less his cost; else 0 less his cost; of who stays: 0.");
        String text = "quota 2;dinner 7;member always cost 3;member always cost 9;member always;";
        int[][] pays = {{0, 0, 0}, {-3, 0, 0}, {0, -9, 0}, {4, -2, 0}, {0, 0, 0}, {4, 0, 7}, {0, -2, 7}, {-3, -9, 0}};
        for (int set = 0; set < 8; set++) {
            x = weeks(text, set);
            for (int m = 0; m < 3; m++) {
                due("PAY of " + m + " in " + set, x.member(m, 6), pays[set][m]);
            }
            due("pay(" + set + ")", x.pay(set), pays[set][0] + pays[set][1] + pays[set][2]);
        }
        x = weeks("quota 1;dinner 0;member always cost 999;", 1);
        due("PAY without dinner", x.member(0, 6), -999);
        x = weeks("quota 1;dinner 999;member always;", 1);
        due("PAY without cost", x.member(0, 6), 999);

        says("A THOUGHT of DEPTH 0: as LAST WEEK;");
        x = weeks("quota 12;member never cost 999;member always;member learns;", 5);
        due("who came", x.thought(0, 0), true);
        due("who did not", x.thought(1, 0), false);
        due("who came", x.thought(2, 0), true);
        x.told(2);
        due("who did not", x.thought(0, 0), false);
        due("who came", x.thought(1, 0), true);

        says("of DEPTH d: he would COME, if, all others doing as their THOUGHTS of DEPTH d less 1 (whatever their RULES),"
                + " his PAY by coming were above 0.");
        x = weeks("quota 2;dinner 5;member never;member always cost 4;member same cost 5;", 1);
        boolean[][] by = {{true, false, false}, {false, true, false}, {true, false, false}, {false, true, false}};
        for (int d = 0; d < 4; d++) {
            for (int m = 0; m < 3; m++) {
                due("thought(" + m + ", " + d + ")", x.thought(m, d), by[d][m]);
            }
        }
        x.told(3);
        for (int d = 0; d <= 6; d++) {
            due("thought(0, " + d + ")", x.thought(0, d), true);
            due("thought(2, " + d + ")", x.thought(2, d), false);
        }
        x = club("quota 1;dinner 5;member never cost 9;member never cost 5;member never cost 4;");
        x.told(1);
        due("he who came would lose", x.thought(0, 1), false);
        x.told(2);
        due("he who came would have 0", x.thought(1, 1), false);
        x.told(4);
        due("he who came would have 1", x.thought(2, 1), true);
        due("one is there already", x.thought(1, 1), false);
        x.told(0);
        due("nobody is there", x.thought(2, 1), true);
        due("nobody is there", x.thought(1, 1), false);
        x.told(7);
        due("two too many", x.thought(2, 1), false);
        x = weeks("quota 3;" + never(3), 1);
        due("one is wanting yet", x.thought(1, 1), false);
        due("one is wanting yet", x.thought(0, 1), false);
    }

    // ---- promises 7 to 9

    private static void goingBy() {
        promise(7);
        says("A WEEK goes by with FOG by a SEED: who came (bits).");
        NobodysTuesday x = club("fog 39;member always;member hats 1;member sees 1;");
        due("week(1)", x.week(1), 1 + 2);
        due("WEEK", x.count(5), 1);
        due("came(0)", x.came(0), 1 + 2);
        due("week(0)", x.week(0), 7);
        due("came(1)", x.came(1), 7);
        due("week(" + MOST + ")", x.week(MOST), 7);
        due("week(" + LEAST + ")", x.week(LEAST), 1 + 4);
        due("came(3)", x.came(3), 1 + 4);
        due("WEEK", x.count(5), 4);
        due("week of nobody", new NobodysTuesday().week(7), 0);
        due("week of twelve", club("member always;".repeat(12)).week(7), 4095);

        says("IllegalStateException: WEEK is 60.");
        for (int seed : new int[] {0, 1, -1, LEAST, MOST}) {
            refused("week(" + seed + ")", STATE, WeekRows::sixty, y -> y.week(seed));
        }
        refused("week(0) of nobody", STATE, y -> {
            for (int i = 0; i < 60; i++) {
                y.week(0);
            }
        }, y -> y.week(0));
        x = made(WeekRows::sixty);
        x.back(1);
        due("the 60th WEEK", x.week(0), 4);
        due("came(59)", x.came(59), 4);
    }

    private static void tellingAndBack() {
        promise(8);
        says("A WEEK goes by in which those of a SET came, whatever RULES say: whether it MET.");
        NobodysTuesday x = club("quota 2;member never;member never;member always;");
        due("told(3)", x.told(3), true);
        due("told(0)", x.told(0), false);
        due("told(7)", x.told(7), false);
        due("told(4)", x.told(4), false);
        due("told(6)", x.told(6), true);
        int[] sets = {3, 0, 7, 4, 6};
        for (int week = 0; week < 5; week++) {
            due("came(" + week + ")", x.came(week), sets[week]);
        }
        due("WEEK", x.count(5), 5);
        due("told(0) of nobody", new NobodysTuesday().told(0), false);
        due("told(4095) of twelve", club("quota 12;" + never(12)).told(4095), true);

        says("IllegalStateException: WEEK is 60;");
        for (int set : new int[] {0, 3, 15}) {
            refused("told(" + set + ")", STATE, WeekRows::sixty, y -> y.told(set));
        }
        // This one is told first.
        for (int set : new int[] {16, -1, LEAST, MOST}) {
            refused("told(" + set + ") at WEEK 60", STATE, WeekRows::sixty, y -> y.told(set));
        }

        says("IllegalArgumentException: a SET with others.");
        due("told(15)", made(Rows::rich).told(15), false);
        for (int set : new int[] {16, 17, 32, 4096, -1, -16, LEAST, MOST}) {
            refused("told(" + set + ")", ARGUMENT, y -> y.told(set));
        }
        refused("told(1) of nobody", ARGUMENT, NEW, y -> y.told(1));
        refused("told(4096) of twelve", ARGUMENT, has(never(12)), y -> y.told(4096));
        refused("told(-1) of twelve", ARGUMENT, has(never(12)), y -> y.told(-1));

        promise(9);
        says("The last n WEEKS were not: WEEK then.");
        x = weeks("quota 2;" + never(3) + "member over 2;", 3, 5, 6);
        due("back(0)", x.back(0), 3);
        due("back(2)", x.back(2), 1);
        due("came(0)", x.came(0), 3);
        thrown("came(1)", ELEMENT, x, y -> y.came(1));
        due("LAST WEEK", x.thought(1, 0), true);
        due("LAST WEEK", x.thought(2, 0), false);
        due("told", x.told(9), true);
        due("came(1)", x.came(1), 9);
        due("back(2)", x.back(2), 0);
        due("nobody came LAST WEEK", x.thought(1, 0), false);
        due("back(0) at WEEK 0", x.back(0), 0);
        x = made(WeekRows::sixty);
        due("back(60)", x.back(60), 0);
        due("week", x.week(0), 3);
        nothingIsLeft();

        says("IllegalArgumentException: n is below 0");
        due("back(0)", made(Rows::rich).back(0), 4);
        for (int n : new int[] {-1, -2, LEAST}) {
            refused("back(" + n + ")", ARGUMENT, y -> y.back(n));
            refused("back(" + n + ") at WEEK 0", ARGUMENT, NEW, y -> y.back(n));
        }

        says("or above WEEK.");
        due("back(4)", made(Rows::rich).back(4), 0);
        for (int n : new int[] {5, 60, 61, MOST}) {
            refused("back(" + n + ")", ARGUMENT, y -> y.back(n));
        }
        refused("back(1) at WEEK 0", ARGUMENT, NEW, y -> y.back(1));
        refused("back(61) at WEEK 60", ARGUMENT, WeekRows::sixty, y -> y.back(61));
    }

    /** Nothing counts WEEKS that were not. */
    private static void nothingIsLeft() {
        NobodysTuesday x = weeks("quota 2;dinner 5;member learns cost 1;member never;member sees 0;", 7, 3, 3, 7);
        due("back(2)", x.back(2), 2);
        due("came", x.member(0, 4), 2);
        due("dined", x.member(0, 5), 1);
        due("PAY", x.member(0, 6), 3);
        due("met", x.count(6), 1);
        due("streak", x.streak(0), 1);
        due("tally", x.tally(3), 1);
        due("together", x.together(0, 2), 1);
        due("friends", x.friends(), 1);
        due("cook", x.cook(0), 1);
        due("guess", x.guess(1), 2);
        due("ahead", x.ahead(1, 100), 1);
        x.back(1);
        due("learns", x.next(), 4);
        x.tray(0, 0, 3);
        due("pour", x.pour(0), 1);
    }

    // ---- promises 10 to 13

    private static void whatWentBy() {
        Deed two = has("quota 2;" + never(4), 6, 15);
        promise(10);
        says("Who came in a WEEK that went by (bits).");
        NobodysTuesday x = made(two);
        dues("came", x::came, 0, 6, 15);
        x = club("member always;".repeat(12));
        x.week(0);
        due("came(0)", x.came(0), 4095);
        x = made(WeekRows::sixty);
        for (int week = 0; week < 60; week++) {
            due("came(" + week + ")", x.came(week), week % 16);
        }

        says("NoSuchElementException: no such WEEK (as below).");
        for (int week : new int[] {-1, 2, 3, 60, LEAST, MOST}) {
            refused("came(" + week + ")", ELEMENT, two, y -> y.came(week));
        }
        refused("came(0) at WEEK 0", ELEMENT, NEW, y -> y.came(0));
        refused("came(60) at WEEK 60", ELEMENT, WeekRows::sixty, y -> y.came(60));

        promise(11);
        says("Whether it MET.");
        x = made(two);
        due("met(0)", x.met(0), true);
        due("met(1)", x.met(1), false);
        x.quota(4);
        due("met(0) by quota 4", x.met(0), false);
        due("met(1) by quota 4", x.met(1), true);
        for (int week : new int[] {-1, 2, 60, LEAST, MOST}) {
            refused("met(" + week + ")", ELEMENT, two, y -> y.met(week));
        }
        refused("met(0) at WEEK 0", ELEMENT, NEW, y -> y.met(0));
        refused("met(60) at WEEK 60", ELEMENT, WeekRows::sixty, y -> y.met(60));

        promise(12);
        says("Who would COME in the WEEK now, without fog (bits).");
        x = club("fog 100;member always;member hats 1;member sees 1;");
        due("next sees all HATS", x.next(), 5);
        due("but in fog", x.week(7), 3);
        due("next behind fog", x.next(), 5);
        due("next of nobody", new NobodysTuesday().next(), 0);
        due("next of WEEK 60", made(WeekRows::sixty).next(), 5);
        leaves("next", 1 + 8, Rows::rich, NobodysTuesday::next);
    }

    private static void hatsNow() {
        promise(13);
        says("HATS that a MEMBER would see now, without fog.");
        NobodysTuesday x = club("fog 100;member always;member never umbrella;member always umbrella;member never;member other;"
                + "member never;");
        dues("hats", x::hats, 0, 0, 1, 2, 3, 3, 4);
        x.told(16);
        dues("hats", x::hats, 0, 0, 1, 2, 3, 3, 3);
        due("hats(11)", club("member always;".repeat(12)).hats(11), 11);
        due("hats(11)", club("member never umbrella;".repeat(12)).hats(11), 11);
        for (int m : new int[] {-1, 4, 12, LEAST, MOST}) {
            refused("hats(" + m + ")", ELEMENT, y -> y.hats(m));
        }
        refused("hats(0) of nobody", ELEMENT, NEW, y -> y.hats(0));
        refused("hats(12) of twelve", ELEMENT, has(never(12)), y -> y.hats(12));
    }

    // ---- promises 14 to 16

    private static void thoughtsNow() {
        promise(14);
        says("Whether a THOUGHT of DEPTH d (0 to 6) says now that a MEMBER COMES.");
        // Nobody, all, nobody, ..: for each the others alone are too many or too few.
        NobodysTuesday x = club("quota 1;" + never(12));
        for (int d = 0; d <= 6; d++) {
            due("thought(0, " + d + ")", x.thought(0, d), d % 2 == 1);
            due("thought(11, " + d + ")", x.thought(11, d), d % 2 == 1);
        }
        x = weeks("quota 1;" + never(12), 2048);
        due("thought(11, 0)", x.thought(11, 0), true);
        due("thought(11, 6)", x.thought(11, 6), true);
        due("thought(0, 6)", x.thought(0, 6), false);
        for (int m : new int[] {-1, 4, 12, LEAST, MOST}) {
            refused("thought(" + m + ", 0)", ELEMENT, y -> y.thought(m, 0));
            // This one is told first.
            refused("thought(" + m + ", 7)", ELEMENT, y -> y.thought(m, 7));
        }

        says("IllegalArgumentException: d.");
        due("thought(0, 6)", made(Rows::rich).thought(0, 6), false);
        for (int d : new int[] {-1, 7, LEAST, MOST}) {
            refused("thought(0, " + d + ")", ARGUMENT, y -> y.thought(0, d));
        }
    }

    private static void settling() {
        promise(15);
        says("The least DEPTH (0 to 6) from which on up to 6 all MEMBERS' THOUGHTS are alike;");
        due("nobody", new NobodysTuesday().settled(), 0);
        NobodysTuesday x = club("quota 2;dinner 5;" + never(3));
        due("nobody came, one is not enough", x.settled(), 0);
        x.told(6);
        due("two came and would again", x.settled(), 0);
        // 001, 110, 110
        x.told(1);
        due("one came: the two others would", x.settled(), 1);
        // 111, 000, 000
        x.told(7);
        due("all came: none would", x.settled(), 1);
        // 01, 00, 10, 10: 0 would lose, if he came.
        x = weeks("quota 1;member never cost 99;member never;", 1);
        due("who lost stays, the other would come", x.settled(), 2);
        // 00111, 00110, 11000, 00000: 0 would lose; 2 are left of 3; the two others; nobody.
        x = weeks("quota 3;member never cost 99;" + never(5), 1 + 2 + 4);
        due("1 and 2; 3, 4, 5; the same", x.settled(), 2);
        x = weeks("quota 3;member never cost 99;" + never(3), 1 + 2 + 4);
        due("1 and 2; 3 alone; nobody", x.settled(), 3);

        says("NONE: not even at 5 and 6.");
        x = club("quota 1;" + never(2));
        due("nobody, both, nobody, ..", x.settled(), NONE);
        x = weeks("quota 1;" + never(3), 6);
        due("two, nobody, all, nobody, ..", x.settled(), NONE);
        x = weeks("quota 2;" + never(2), 1);
        due("0, 1, 0, 1, ..", x.settled(), NONE);
        x.told(3);
        due("both", x.settled(), 0);
    }

    private static void judging() {
        promise(16);
        says("Numbers of a TRAY are SETS of the next WEEKS: the first place that is not as it would go by without fog"
                + " (what 0;");
        String text = "fog 100;member other;member every 2;member hats 1;";
        NobodysTuesday x = club(text);
        fill(x, 2, 0, 3, 4, 3, 4);
        judged(x, 2, NONE, NONE);
        x.write(2, 3, 7);
        judged(x, 2, 3, 4);
        x.write(2, 2, 7);
        judged(x, 2, 2, 3);
        x.write(2, 0, 0);
        judged(x, 2, 0, 3);
        due("nothing went by", x.count(5), 0);
        sixtyPlaces();
        beyondWeekSixty();

        says("NONE: all are), the SET it would be (1; NONE).");
        fill(x, 2, 0, 3, 4, 3, 4, 3);
        judged(x, 2, NONE, NONE);
        fill(x, 2, 0, 3, 4, 3, 4, 4);
        judged(x, 2, 4, 3);
        x.tray(1, 3, 0);
        judged(x, 1, NONE, NONE);
        // Numbers that are no SETS.
        fill(x, 3, 3, (1L << 32) + 3);
        judged(x, 3, 0, 3);
        fill(x, 3, 3, -1);
        judged(x, 3, 0, 3);
        x = club("member always;".repeat(8));
        fill(x, 0, 0, 255);
        judged(x, 0, 0, 255);
        fill(x, 0, 1, 255);
        judged(x, 0, NONE, NONE);
        x = new NobodysTuesday();
        fill(x, 0, 0, 0, 0, 1);
        judged(x, 0, 2, 0);

        says("NoSuchElementException: no such TRAY (as below);");
        for (int tray : new int[] {-1, 4, LEAST, MOST}) {
            refused("judge(" + tray + ", 0)", ELEMENT, y -> y.judge(tray, 0));
            // This one is told first.
            refused("judge(" + tray + ", 2)", ELEMENT, y -> y.judge(tray, 2));
        }

        says("IllegalStateException: it is MISSING (as below);");
        for (int tray : new int[] {1, 3}) {
            refused("judge(" + tray + ", 0)", STATE, y -> y.judge(tray, 0));
            // This one is told ahead of another what.
            refused("judge(" + tray + ", 2)", STATE, y -> y.judge(tray, 2));
        }

        says("IllegalArgumentException: another what.");
        for (int what : new int[] {-1, 2, LEAST, MOST}) {
            refused("judge(0, " + what + ")", ARGUMENT, y -> y.judge(0, what));
            refused("judge(2, " + what + ")", ARGUMENT, y -> y.judge(2, what));
        }
        refused("judge(0, 2) of an empty TRAY", ARGUMENT, y -> y.tray(0, 0, 0), y -> y.judge(0, 2));
    }

    private static void judged(NobodysTuesday x, int tray, int place, int set) {
        due("judge(" + tray + ", 0)", x.judge(tray, 0), place);
        due("judge(" + tray + ", 1)", x.judge(tray, 1), set);
    }

    private static void sixtyPlaces() {
        NobodysTuesday x = club("member other;member every 5;");
        x.tray(0, 0, 60);
        for (int week = 0; week < 60; week++) {
            judged(x, 0, week, (week + 1) % 2 + (week % 5 == 0 ? 2 : 0));
            // A SET of nobody is as a place that was not written.
            x.write(0, week, (week + 1) % 2 + (week % 5 == 0 ? 2 : 0));
            while (week < 59 && (week + 2) % 2 == 0 && (week + 1) % 5 != 0) {
                week++;
            }
        }
        judged(x, 0, NONE, NONE);
        x.write(0, 59, 1);
        judged(x, 0, 59, 0);
    }

    private static void beyondWeekSixty() {
        NobodysTuesday x = made(WeekRows::sixty);
        fill(x, 0, 2, 5, 6, 4);
        judged(x, 0, NONE, NONE);
        fill(x, 0, 2, 5, 4, 4);
        judged(x, 0, 1, 6);
        due("WEEK", x.count(5), 60);
    }
}
