/** The club's text and its FAULTS (terms), and promises 1 to 6. */
final class TextRows extends Rows {
    private static final String[] RULES = {"always", "never", "same", "other", "under", "over", "every", "hats",
            "sees", "think", "learns"};

    static void all() {
        aText();
        lines();
        bounds();
        tokens();
        kindsOfFault();
        aNewObject();
        feeding();
        reading();
        theFault();
        members();
        anotherQuota();
    }

    // ---- how a text or a FAULT is told

    private static void taken(String text, int lines) {
        due("a text \"" + text + "\"", read(new NobodysTuesday(), text), lines);
    }

    private static void fault(String text, int kind, int place) {
        NobodysTuesday x = new NobodysTuesday();
        due("\"" + text + "\"", read(x, text), -10 - kind);
        due("fault(0) of \"" + text + "\"", x.fault(0), kind);
        due("fault(1) of \"" + text + "\"", x.fault(1), place);
    }

    /** 0 to most of a bound are taken behind such words, most + 1 to 999 are not. */
    private static void bound(String words, int least, int most) {
        for (int n = 0; n <= 999; n = n < 20 || n > 95 && n < 105 || n > 990 ? n + 1 : n + 5) {
            String text = words + " " + n + ";";
            if (n >= least && n <= most) {
                taken(text, 1);
            } else {
                fault(text, 3, words.length() + 1);
            }
        }
    }

    // ---- terms

    private static void aText() {
        promise(0);
        says("An object is used for at most 512 calls after it has been made; what later calls answer is free.");
        NobodysTuesday x = new NobodysTuesday();
        due("its first call", lay(x, "member other;"), 20);
        due("its third call", x.club(13), 1);
        for (int i = 4; i < 511; i++) {
            due("call " + i, x.next(), 1);
        }
        due("its 511th call", x.week(0), 1);
        due("its 512th call", x.next(), 0);

        says("The constants: `NONE = -1`: There is none.");
        due("NONE", NobodysTuesday.NONE, -1);

        says("THE CLUB is a TEXT of at most 700 bytes");
        String whole = "quota 5;" + " ".repeat(684) + "quota 4;";
        x = new NobodysTuesday();
        due("700 bytes", lay(x, whole), 700);
        due("a text of 700 bytes", x.club(700), 2);
        due("its quota", x.count(1), 4);
        refused("a text of 701 bytes", ARGUMENT, y -> lay(y, whole), y -> y.club(701));
        fault(" ".repeat(699) + "q", 2, 699);

        says("(without one: quota 1, dinner 10, no MEMBERS):");
        x = new NobodysTuesday();
        dues("count without a text", x::count, 1, 1, 10, 0, 0);
        due("a text of 0 bytes", x.club(0), 0);
        dues("count of an empty text", x::count, 1, 1, 10, 0, 0);
    }

    private static void lines() {
        says("{ LINE ; } LINE: quota N | dinner N | fog N | member RULE [ cost N ] [ umbrella ].");
        taken("", 0);
        taken("quota 1;", 1);
        taken("dinner 1;", 1);
        taken("fog 1;", 1);
        taken("member always;", 1);
        taken("member always cost 1;", 1);
        taken("member always umbrella;", 1);
        taken("member always cost 1 umbrella;", 1);
        taken("member never;fog 1;dinner 1;quota 1;member never;", 5);
        taken("fog1;".repeat(140), 140);
        fault(";", 2, 0);
        fault("quota 1;;", 2, 8);
        fault("quota 1", 2, 7);
        fault("quota 1 fog 1;", 2, 8);
        fault("quota;", 2, 5);
        fault("dinner;", 2, 6);
        fault("fog;", 2, 3);
        fault("member;", 2, 6);
        fault("quota quota 1;", 2, 6);
        fault("quota 1 1;", 2, 8);
        fault("1;", 2, 0);
        fault("always;", 2, 0);
        fault("cost 1;", 2, 0);
        fault("umbrella;", 2, 0);
        fault("member cost 3;", 2, 7);
        fault("member umbrella;", 2, 7);
        fault("member always cost;", 2, 18);
        fault("member always cost umbrella;", 2, 19);
        fault("member always cost 1 cost 1;", 2, 21);
        fault("member always cost 1 2;", 2, 21);
        fault("member always umbrella umbrella;", 2, 23);
        fault("member always umbrella cost 1;", 2, 23);
        fault("member always umbrella", 2, 22);
        fault("member always member always;", 2, 14);
        fault("member member always;", 2, 7);

        says("RULE: always | never | same | other | under N | over N | every N | hats N | sees N | think N | learns.");
        for (int rule = 0; rule < 11; rule++) {
            boolean hasN = rule >= 4 && rule <= 9;
            String words = "member " + RULES[rule];
            int end = words.length();
            if (hasN) {
                taken(words + " 1;", 1);
                taken(words + " 1 cost 2 umbrella;", 1);
                fault(words + ";", 2, end);
                fault(words + " cost 1;", 2, end + 1);
                fault(words + " umbrella;", 2, end + 1);
                fault(words + " 1 1;", 2, end + 3);
            } else {
                taken(words + ";", 1);
                taken(words + " cost 2 umbrella;", 1);
                fault(words + " 1;", 2, end + 1);
            }
            fault(words + "s;", 2, 7);
            fault(words.substring(0, end - 1) + ";", 2, 7);
            fault(words, 2, end);
        }
        fault("member quota 1;", 2, 7);
        fault("member 3;", 2, 7);
        fault("member always never;", 2, 14);
    }

    private static void bounds() {
        says("quota 1 to 12,");
        bound("quota", 1, 12);

        says("dinner 0 to 999,");
        bound("dinner", 0, 999);

        says("fog 0 to 100 (0 without);");
        bound("fog", 0, 100);
        NobodysTuesday x = club("quota 12;dinner 999;fog 100;");
        dues("count", x::count, 1, 12, 999, 100);
        x = club("quota 1;dinner 0;fog 0;");
        dues("count", x::count, 1, 1, 0, 0);
        x = club("quota 3;dinner 8;");
        due("fog without", x.count(3), 0);

        says("later ones strike.");
        x = club("quota 3;dinner 4;fog 5;quota 6;fog 8;dinner 7;");
        dues("count", x::count, 0, 6, 6, 7, 8);
        x = club("quota 6;dinner 999;fog 100;quota 1;dinner 0;fog 0;");
        dues("count", x::count, 0, 6, 1, 0, 0);
        // A dinner that is told behind MEMBERS is theirs, too.
        x = club("quota 1;dinner 1;member never cost 5;dinner 9;");
        due("pay(1)", x.pay(1), 4);
        due("rest(0)", x.rest(0), 1);
        due("inTurn", x.inTurn(), 1);
        due("thought(0, 1)", x.thought(0, 1), true);

        says("cost: 0 to 999 (0).");
        bound("member always cost", 0, 999);
        x = club("member never;member never cost 0;member never cost 999;member never umbrella;");
        int[] costs = {0, 0, 999, 0};
        for (int m = 0; m < 4; m++) {
            due("cost of " + m, x.member(m, 2), costs[m]);
        }
        due("pay(4)", x.pay(4), 10 - 999);

        says("under, over, hats, sees: 0 to 12;");
        bound("member under", 0, 12);
        bound("member over", 0, 12);
        bound("member hats", 0, 12);
        bound("member sees", 0, 12);
        fault("member hats 13 cost 1;", 3, 12);

        says("every: 1 to 12;");
        bound("member every", 1, 12);

        says("think: 0 to 6.");
        bound("member think", 0, 6);

        says("MEMBERS are numbered from 0 on as they come,");
        x = club("member under 0;quota 2;member under 1;member under 2;member under 3;member under 4;member under 5;"
                + "dinner 2;member under 6;member under 7;member under 8;member under 9;member under 10;member under 11;");
        due("MEMBERS", x.count(4), 12);
        for (int m = 0; m < 12; m++) {
            due("N of " + m, x.member(m, 1), m);
        }

        says("12 at most.");
        taken(never(11), 11);
        taken(never(12), 12);
        fault(never(13), 4, 156);
        fault(never(12) + "quota 3;" + never(1), 4, 164);
    }

    private static boolean isBlank(int sign) {
        return sign == 10 || sign == 32;
    }

    private static boolean isDigit(int sign) {
        return sign >= 48 && sign <= 57;
    }

    private static boolean isLetter(int sign) {
        return sign >= 97 && sign <= 122;
    }

    private static void tokens() {
        says("TOKENS, as long as they go, between them blanks (10, 32):");
        taken("quota3;member under12cost999umbrella;fog100;", 3);
        taken("\n \nquota\n012\n;\n dinner  007 ; \n", 2);
        taken(" \n \n", 0);
        fault("quotas 1;", 2, 0);
        fault("quotafog 1;", 2, 0);
        fault("quo ta 1;", 2, 0);
        fault("member alwaysnever;", 2, 7);
        fault("member always umbrellas;", 2, 14);
        fault("member always costs 1;", 2, 14);
        fault("members always;", 2, 0);
        fault("dinner 1 2;", 2, 9);

        says("N (1 to 3 digits),");
        taken("quota 7;", 1);
        taken("quota 07;", 1);
        taken("quota 007;", 1);
        fault("quota 0007;", 1, 6);
        fault("quota ;", 2, 6);
        taken("dinner 999;", 1);
        fault("dinner 1000;", 1, 7);

        says("words (small letters), N (1 to 3 digits), the sign ;.");
        for (int sign = 0; sign < 256; sign++) {
            String one = String.valueOf((char) sign);
            boolean begins = isDigit(sign) || isLetter(sign) || sign == ';';
            if (isBlank(sign)) {
                taken(one, 0);
                taken("quota" + one + "1;", 1);
                taken("quota 1" + one + ";", 1);
                taken("quota 1;" + one, 1);
            } else if (!begins) {
                fault(one, 1, 0);
                fault("quota" + one + "1;", 1, 5);
                fault("quota 1" + one + ";", 1, 7);
                fault("quota 1;" + one, 1, 8);
            } else {
                fault(one, 2, 0);
                fault("quota 1;" + one, 2, 8);
            }
            if (isLetter(sign)) {
                fault("quota" + one + "1;", 2, 0);
                fault("quota 1" + one + ";", 2, 7);
            }
        }
        taken("quota01;", 1);
        taken("quota11;", 1);
        fault("quota21;", 3, 5);
        fault("quota;1;", 2, 5);
    }

    private static void kindsOfFault() {
        says("FAULTS, the first along the text, of one TOKEN the least kind:");
        // Along the text a greater kind comes ahead of a lesser one.
        fault("quota 13 1000;", 3, 6);
        fault("quota 13 fog;", 3, 6);
        fault("quota 13;Q", 3, 6);
        fault("fog;Q", 2, 3);
        fault("zoo 1000;", 2, 0);
        fault(never(13) + "Q", 4, 156);
        fault(never(12) + "member Q", 4, 156);
        fault(never(12) + "member quota;", 4, 156);
        fault(never(12) + "quota 13;" + never(1), 3, 162);
        // One TOKEN: 4 digits are out of bounds and can't stand there, too.
        fault("dinner 1000;", 1, 7);
        fault("quota 9999;", 1, 6);
        fault("1000", 1, 0);
        fault("member 1000;", 1, 7);
        fault("member always 1000;", 1, 14);
        fault(never(12) + "1000", 1, 156);
        // A number that can't stand where it is has no bounds there.
        fault("member always 999;", 2, 14);
        fault("quota 1 999;", 2, 8);
        fault(never(12) + "zoo;", 2, 156);
        fault(never(12) + "members never;", 2, 156);
        fault(never(12) + "quota member;", 2, 162);
        fault(never(11) + "member never member never;", 2, 156);

        says("1 no TOKEN begins so (4 digits and more: at their first).");
        fault("Quota 1;", 1, 0);
        fault("member Always;", 1, 7);
        fault("quota -1;", 1, 6);
        fault("quota 1,", 1, 7);
        fault("quota\t1;", 1, 5);
        fault("quota\r\n1;", 1, 5);
        fault("quota 999;", 3, 6);
        fault("quota 1000;", 1, 6);
        fault("quota 0001;", 1, 6);
        fault("quota 0000000000000;", 1, 6);
        fault("quota " + "1".repeat(694), 1, 6);
        fault("member always cost 1000;", 1, 19);

        says("2 it can't stand there (the end: the text's length).");
        fault("quota", 2, 5);
        fault("quota ", 2, 6);
        fault("quota 1", 2, 7);
        fault("quota 1  ", 2, 9);
        fault("member", 2, 6);
        fault("member always", 2, 13);
        fault("member under", 2, 12);
        fault("member always cost", 2, 18);
        fault("member always cost 1\n", 2, 21);
        fault("m".repeat(700), 2, 0);
        fault("quota" + " ".repeat(695), 2, 700);

        says("3 N is out of its bounds.");
        fault("quota 0;", 3, 6);
        fault("quota 13;", 3, 6);
        fault("quota 000;", 3, 6);
        fault("quota 013", 3, 6);
        fault("fog 101;", 3, 4);
        fault("member every 0;", 3, 13);
        fault("member every 13;", 3, 13);
        fault("member think 7;", 3, 13);

        says("4 the first TOKEN of a 13th member.");
        fault(never(13), 4, 156);
        fault(never(12) + "  \nmember", 4, 159);
        fault(never(12) + "member 1000;", 4, 156);
        fault(never(12) + "quota 2;member never;", 4, 164);
        taken(never(12) + "quota 2;", 13);
    }

    // ---- promises 1 and 2

    private static void aNewObject() {
        promise(1);
        says("A CLUB without a text;");
        NobodysTuesday x = new NobodysTuesday();
        dues("count", x::count, 0, 0, 1, 10, 0, 0, 0, 0);
        due("next", x.next(), 0);

        says("TRAYS are MISSING;");
        for (int i = 0; i < 4; i++) {
            int tray = i;
            refused("pour(" + i + ")", STATE, NEW, y -> y.pour(tray));
            refused("judge(" + i + ", 0)", STATE, NEW, y -> y.judge(tray, 0));
        }

        says("an empty tape.");
        due("count(7)", x.count(7), 0);
        due("club(0)", x.club(0), 0);
        refused("club(1)", ARGUMENT, NEW, y -> y.club(1));
        // What one object does no other one has.
        NobodysTuesday other = made(Rows::rich);
        same("another object", x, new NobodysTuesday());
        same("another object", other, made(Rows::rich));
    }

    private static void feeding() {
        promise(2);
        says("Twenty bytes come behind those on the tape, the highest of each int first:");
        NobodysTuesday x = new NobodysTuesday();
        // "quota 12;fog 33;    "
        due("feed", x.feed(0x71756f74, 0x61203132, 0x3b666f67, 0x2033333b, 0x20202020), 20);
        // "dinner 77;quota 11;;"
        due("feed", x.feed(0x64696e6e, 0x65722037, 0x373b7175, 0x6f746120, 0x31313b3b), 40);
        due("count(7)", x.count(7), 40);
        due("club(39)", x.club(39), 4);
        dues("count", x::count, 1, 11, 77, 33);
        due("feed behind club()", x.feed(0x20202020, 0x20202020, 0x20202020, 0x20202020, 0x2020203b), 20);
        due("club(19)", x.club(19), 0);
        x.feed(0x20202020, 0x20202020, 0x20202020, 0x20202020, 0x2020203b);
        due("club(20)", x.club(20), -12);
        due("the sign ; comes last", x.fault(1), 19);

        says("how many it has;");
        x = new NobodysTuesday();
        due("feed", x.feed(0, 0, 0, 0, 0), 20);
        for (int i = 2; i <= 35; i++) {
            due("feed " + i, x.feed(-1, i, LEAST, MOST, 0), 20 * i);
            due("count(7)", x.count(7), 20 * i);
        }

        says("NONE, and nothing changes, if there would be more than 700.");
        Deed full = y -> {
            rich(y);
            y.club(0);
            lay(y, "quota 7;" + " ".repeat(691) + ";");
        };
        Deed oneRoom = y -> {
            rich(y);
            y.club(0);
            lay(y, "quota 7;" + " ".repeat(672));
        };
        x = made(full);
        due("full", x.count(7), 700);
        due("feed", x.feed(-1, -1, -1, -1, -1), NONE);
        due("feed", x.feed(0, 0, 0, 0, 0), NONE);
        due("count(7)", x.count(7), 700);
        leaves("feed to 700 bytes", NONE, full, y -> y.feed(0x71756f74, 0x61203132, 0x3b666f67, 0x2033333b, 0x20202020));
        due("feed to 680 bytes", made(oneRoom).feed(0, 0, 0, 0, 0), 700);
        due("fault of what stood there", made(full).club(700), -12);
        x = made(full);
        x.feed(-1, -1, -1, -1, -1);
        x.club(700);
        due("its place", x.fault(1), 699);
    }

    // ---- promise 3

    private static void reading() {
        promise(3);
        says("The first n bytes of the tape (which is empty then) are THE CLUB,");
        NobodysTuesday x = new NobodysTuesday();
        due("feed", lay(x, "quota 2;quota 3;"), 20);
        due("its first line", x.club(8), 1);
        due("quota", x.count(1), 2);
        due("the tape", x.count(7), 0);
        due("all of it", lay(x, "quota 2;quota 3;quot"), 20);
        due("club(16)", x.club(16), 2);
        due("quota", x.count(1), 3);
        // What stands on the tape behind the text is not read.
        int[][] cuts = {{0, 0, -1}, {4, 2, 0}, {5, 2, 5}, {7, 2, 7}, {8, 2, 8}, {9, 0, -1}, {12, 2, 9}, {20, 2, 9}};
        for (int[] cut : cuts) {
            lay(x, "quota 12;dinnerdinner;");
            x.club(cut[0]);
            due("fault of its first " + cut[0] + " bytes", x.fault(0), cut[1]);
            due("place in its first " + cut[0] + " bytes", x.fault(1), cut[2]);
            due("the tape", x.count(7), 0);
        }
        manyClubs();

        says("WEEK 0 (IMAGES, TRAYS stay):");
        weeksAreGone();

        says("how many LINES;");
        due("no LINE", read(x, "  "), 0);
        due("one LINE", read(x, "fog 1;"), 1);
        due("140 LINES", read(x, "fog1;".repeat(140)), 140);
        due("count(0)", x.count(0), 140);

        says("-10 less the FAULT (all else stays).");
        allStays("fog 9;quota 13;", -13);
        allStays("quota 5;dinner 77;fog 9;member learns cost 7 umbrella;member always;member over 3;member never;"
                + "member never;", 8);
        allStays("quota 5;dinner 77;fog 9;member learns cost 7 umbrella;member always;member over 3;member never;Q", -11);
        allStays("quota 5;dinner 77;fog 9;member learns cost 7 umbrella;member always;member over 3;member never", -12);
        allStays("dinner 3;" + never(13), -14);
        x = made(Rows::rich);
        due("club(12)", x.club(12), -12);
        due("the tape", x.count(7), 0);
        due("feed", x.feed(0, 0, 0, 0, 0), 20);

        says("IllegalArgumentException: n is below 0");
        due("club(0)", made(Rows::rich).club(0), 0);
        for (int n : new int[] {-1, -2, LEAST}) {
            refused("club(" + n + ")", ARGUMENT, y -> y.club(n));
            refused("club(" + n + ") of an empty tape", ARGUMENT, has("quota 2;"), y -> y.club(n));
        }

        says("or above what it has.");
        due("what it has", made(Rows::rich).count(7), 60);
        due("club(60)", made(Rows::rich).club(60), 3);
        for (int n : new int[] {61, 80, 700, 701, MOST}) {
            refused("club(" + n + ")", ARGUMENT, y -> y.club(n));
        }
        refused("club(1) of an empty tape", ARGUMENT, has("quota 2;"), y -> y.club(1));
    }

    /** A text with a FAULT leaves all else as it was; one without does not (or this would tell nothing). */
    private static void allStays(String text, int want) {
        Deed without = y -> {
            rich(y);
            read(y, "quota");
        };
        NobodysTuesday x = made(without);
        due("\"" + text + "\"", read(x, text), want);
        if (want < 0) {
            sameButFault("\"" + text + "\"", x, made(without));
        } else {
            due("count(0)", x.count(0), want);
        }
    }

    private static void weeksAreGone() {
        NobodysTuesday x = club("quota 2;dinner 9;member always;member same;");
        x.told(3);
        x.told(2);
        x.image(0);
        fill(x, 1, 0, 1, 0);
        due("an empty text", x.club(0), 0);
        dues("count", x::count, 0, 0, 1, 10, 0, 0, 0, 0, 0);
        due("next", x.next(), 0);
        due("the TRAY stays", x.pour(1), 0);
        due("a text", read(x, "member same;member other;"), 2);
        due("WEEK", x.count(5), 0);
        due("nobody came LAST WEEK", x.next(), 2);
        due("the TRAY stays", x.turnsBy(1, 1), 1);
        x.restore(0);
        due("the IMAGE stays", x.count(5), 2);
        due("the IMAGE stays", x.came(1), 2);
        due("the IMAGE stays", x.next(), 3);
    }

    /** Of clubs that come one behind the other none leaves anything. */
    private static void manyClubs() {
        NobodysTuesday x = new NobodysTuesday();
        String rich = "quota 7;dinner 90;fog 40;member learns cost 3 umbrella;member never umbrella;member never cost 95;";
        for (int i = 0; i < 3; i++) {
            due("rich", read(x, rich), 6);
            x.told(5);
            x.told(1);
        }
        read(x, "quota 13;");
        read(x, "dinner 1000;");
        due("plain", read(x, "member never;member never;member sees 1;"), 3);
        dues("count", x::count, 0, 3, 1, 10, 0, 3, 0, 0, 0);
        for (int m = 0; m < 3; m++) {
            due("cost of " + m, x.member(m, 2), 0);
            due("umbrella of " + m, x.member(m, 3), 0);
        }
        due("no hats", x.next(), 0);
        due("all but nobody rest", x.rest(-1), 7);
        due("poor", read(x, "dinner 1;member never cost 1;member never cost 2;"), 3);
        due("who has nothing by it stays", x.rest(-1), 2);
        due("who has nothing by it stays", x.inTurn(), 0);
    }

    // ---- promises 4 to 6

    private static void theFault() {
        promise(4);
        says("what 0: the FAULT (0 without, and at first), 1: its place (NONE without).");
        NobodysTuesday x = new NobodysTuesday();
        dues("fault at first", x::fault, 0, 0, NONE);
        read(x, "quota 2;");
        dues("fault of a club without", x::fault, 0, 0, NONE);
        read(x, "quota 13;");
        dues("fault", x::fault, 0, 3, 6);
        read(x, ";");
        dues("fault at place 0", x::fault, 0, 2, 0);
        x.club(0);
        dues("fault of an empty text", x::fault, 0, 0, NONE);

        says("Of the latest club() that threw nothing,");
        read(x, "quota 13;");
        thrown("club(5)", ARGUMENT, x, y -> y.club(5));
        thrown("club(-1)", ARGUMENT, x, y -> y.club(-1));
        dues("fault behind a club() that threw", x::fault, 0, 3, 6);
        lay(x, "quota 12;");
        dues("fault behind feed()", x::fault, 0, 3, 6);
        x.club(9);
        dues("fault of a club without", x::fault, 0, 0, NONE);
        thrown("club(5)", ARGUMENT, x, y -> y.club(5));
        dues("fault of a club without", x::fault, 0, 0, NONE);
        read(x, "member");
        dues("fault of the latest one", x::fault, 0, 2, 6);

        says("NONE for others.");
        x = made(Rows::rich);
        dueOf("fault", x::fault, NONE, -1, 2, 3, 10, LEAST, MOST);
        dues("fault", x::fault, 0, 3, 6);
        dueOf("fault", new NobodysTuesday()::fault, NONE, -1, 2, LEAST, MOST);
    }

    private static void members() {
        promise(5);
        says("Of a MEMBER, what 0: his RULE (0 always to 10 learns, in the order in which they are told above), 1: its N (0 without),"
                + " 2: cost, 3: 1 if umbrella, else 0,");
        NobodysTuesday x = club("quota 2;dinner 9;member always cost 2;member never umbrella;member same;"
                + "member other;member under 3;member over 4;member every 5;member hats 6;member sees 7;"
                + "member think 6;member learns cost 999 umbrella;");
        int[] numbers = {0, 0, 0, 0, 3, 4, 5, 6, 7, 6, 0};
        for (int m = 0; m < 11; m++) {
            due("rule of " + m, x.member(m, 0), m);
            due("number of " + m, x.member(m, 1), numbers[m]);
            due("cost of " + m, x.member(m, 2), m == 0 ? 2 : m == 10 ? 999 : 0);
            due("umbrella of " + m, x.member(m, 3), m == 1 || m == 10 ? 1 : 0);
        }
        x = club("member think 3;member think 0;member always;");
        due("number of 1", x.member(1, 1), 0);
        due("number of 2", x.member(2, 1), 0);

        says("4: WEEKS in which he came, 5: in which he dined, 6: PAY of all WEEKS.");
        x = club("quota 2;dinner 9;member always cost 2;member never umbrella;member same;");
        for (int what = 4; what <= 6; what++) {
            due("member(0, " + what + ") at WEEK 0", x.member(0, what), 0);
        }
        for (int set : new int[] {3, 1, 2, 7}) {
            x.told(set);
        }
        int[][] due = {{3, 1, 9 - 3 * 2}, {3, 1, 9}, {1, 0, 0}};
        for (int m = 0; m < 3; m++) {
            for (int what = 4; what <= 6; what++) {
                due("member(" + m + ", " + what + ")", x.member(m, what), due[m][what - 4]);
            }
        }
        x.quota(3);
        due("dined by another quota", x.member(2, 5), 1);
        due("PAY by another quota", x.member(2, 6), 9);
        x = club("quota 1;dinner 999;member always cost 999;member always;member never cost 999;");
        for (int week = 0; week < 60; week++) {
            x.told(week < 59 ? 2 : 4);
        }
        due("PAY of 59 WEEKS", x.member(1, 6), 59 * 999);
        due("came in 59", x.member(1, 4), 59);
        due("dined in the last one", x.member(2, 5), 1);
        due("PAY of the last one", x.member(2, 6), 0);
        due("never came", x.member(0, 4), 0);

        says("NoSuchElementException: no such MEMBER (as everywhere);");
        for (int m : new int[] {-1, 4, 12, 31, 32, 36, LEAST, MOST}) {
            refused("member(" + m + ", 0)", ELEMENT, y -> y.member(m, 0));
            refused("member(" + m + ", 4)", ELEMENT, y -> y.member(m, 4));
        }
        refused("member(0, 0) of none", ELEMENT, NEW, y -> y.member(0, 0));
        refused("member(12, 0) of 12", ELEMENT, has(never(12)), y -> y.member(12, 0));
        due("member(11, 0) of 12", club(never(12)).member(11, 0), 1);
        // A club with fewer MEMBERS than the one before has none of those behind.
        refused("member(1, 0) of 1", ELEMENT, y -> {
            read(y, never(12));
            read(y, never(1));
        }, y -> y.member(1, 0));
        // This one is told first.
        refused("member(4, 7)", ELEMENT, y -> y.member(4, 7));
        refused("member(-1, -1)", ELEMENT, y -> y.member(-1, -1));

        says("IllegalArgumentException: another what.");
        for (int what : new int[] {-1, 7, 8, LEAST, MOST}) {
            refused("member(0, " + what + ")", ARGUMENT, y -> y.member(0, what));
            refused("member(3, " + what + ")", ARGUMENT, y -> y.member(3, what));
        }
    }

    private static void anotherQuota() {
        promise(6);
        says("Another quota (for WEEKS that went by, too): the one before.");
        NobodysTuesday x = weeks("quota 2;dinner 8;member always cost 1;member learns cost 3;member never;", 3, 1, 7, 2);
        due("quota(2)", x.quota(2), 2);
        int[][] byQuota = {{1, 2}, {2, 1}, {3, 1}, {4, 0}, {12, 0}};
        int before = 2;
        for (int[] row : byQuota) {
            due("quota(" + row[0] + ")", x.quota(row[0]), before);
            before = row[0];
            due("count(1)", x.count(1), row[0]);
            due("WEEKS in which it MET by " + row[0], x.count(6), row[1]);
        }
        x.quota(3);
        due("met(2)", x.met(2), true);
        due("dined", x.member(0, 5), 1);
        due("PAY", x.member(0, 6), 8 - 3);
        due("streak(1)", x.streak(1), 2);
        x.quota(1);
        due("met(2)", x.met(2), false);
        due("PAY", x.member(0, 6), 8 - 3);
        due("cook(3)", x.cook(3), 0 + 2 + 0);
        due("streak(1)", x.streak(1), 1);
        // Had MEMBER 1 come in each, of 2, 2, 3, 1: 4 times 3 coins for 1, 2, 1, 0 dinners.
        int[] learnt = {8 - 12, 16 - 12, 8 - 12, 0 - 12};
        for (int quota = 1; quota <= 4; quota++) {
            x.quota(quota);
            due("learns by quota " + quota, x.next(), learnt[quota - 1] > 0 ? 3 : 1);
        }

        says("IllegalArgumentException: it isn't 1 to 12.");
        due("quota(1)", made(Rows::rich).quota(1), 3);
        due("quota(12)", made(Rows::rich).quota(12), 3);
        for (int n : new int[] {0, -1, 13, LEAST, MOST}) {
            refused("quota(" + n + ")", ARGUMENT, y -> y.quota(n));
        }
    }
}
