/** TRAYS, IMAGES, what throws (terms), and promises 48 to 53. */
final class TrayRows extends Rows {
    static void all() {
        terms();
        severalThrows();
        nothingChanges();
        laying();
        writing();
        pouring();
        imaging();
        restoring();
        counting();
    }

    private static int tray(NobodysTuesday x, int tray, int sort, int many) {
        x.tray(tray, sort, many);
        return 0;
    }

    private static int image(NobodysTuesday x, int i) {
        x.image(i);
        return 0;
    }

    private static int restore(NobodysTuesday x, int i) {
        x.restore(i);
        return 0;
    }

    /** How many places there are: each can be written, the next one can't. */
    private static void places(NobodysTuesday x, int tray, int many) {
        for (int place = 0; place < many; place++) {
            due("write to place " + place, x.write(tray, place, 1), 1);
        }
        thrown("write to place " + many, INDEX, x, y -> y.write(tray, many, 1));
    }

    // ---- terms

    private static void terms() {
        promise(0);
        says("TRAYS 0 to 3 are MISSING at first,");
        for (int i = 0; i < 4; i++) {
            int tray = i;
            refused("write(" + i + ", 0, 0)", STATE, NEW, y -> y.write(tray, 0, 0));
            refused("chances(" + i + ", 1, 0)", STATE, NEW, y -> y.chances(tray, 1, 0));
        }
        refused("write(-1, 0, 0)", ELEMENT, NEW, y -> y.write(-1, 0, 0));
        refused("write(4, 0, 0)", ELEMENT, NEW, y -> y.write(4, 0, 0));

        says("or rows of 0 to 60 numbers");
        NobodysTuesday x = new NobodysTuesday();
        x.tray(0, 0, 60);
        x.tray(1, 1, 59);
        x.tray(2, 2, 1);
        x.tray(3, 3, 0);
        due("all are 0", x.judge(0, 0), NONE);
        places(x, 0, 60);
        places(x, 1, 59);
        places(x, 2, 1);
        places(x, 3, 0);
        refused("tray(0, 0, -1)", ARGUMENT, y -> tray(y, 0, 0, -1));
        refused("tray(0, 0, 61)", ARGUMENT, y -> tray(y, 0, 0, 61));

        says("of 8 bits (sort 0), 16 (1), 32 (2), 64 (3).");
        // Each sort's last numbers and the first ones that are cut, with their sign.
        int[] bits = {8, 16, 32, 64};
        for (int sort = 0; sort < 4; sort++) {
            long most = Long.MAX_VALUE >> 64 - bits[sort];
            x.tray(2, sort, 1);
            for (long v : new long[] {0, 1, -1, most, -most, -most - 1}) {
                due(v + " of " + bits[sort] + " bits", x.write(2, 0, v), v);
            }
            due("one above " + most, x.write(2, 0, most + 1), -most - 1);
            due("one below " + (-most - 1), x.write(2, 0, -most - 2), most);
        }

        refused("tray(0, -1, 1)", ARGUMENT, y -> tray(y, 0, -1, 1));
        refused("tray(0, 4, 1)", ARGUMENT, y -> tray(y, 0, 4, 1));

        says("IMAGES 0 to 2:");
        for (int i = 0; i < 3; i++) {
            due("image(" + i + ")", image(new NobodysTuesday(), i), 0);
        }
        refused("image(-1)", ELEMENT, y -> image(y, -1));
        refused("image(3)", ELEMENT, y -> image(y, 3));

        says("(none at first).");
        for (int i = 0; i < 3; i++) {
            int image = i;
            refused("restore(" + i + ")", STATE, NEW, y -> restore(y, image));
        }

        says("all but the tape, the FAULT and TRAYS, as it was");
        x = made(Rows::rich);
        x.image(0);
        x.club(0);
        x.tray(0, 3, 5);
        x.tray(1, 0, 60);
        read(x, "member");
        lay(x, "fog 7;");
        x.restore(0);
        dues("count", x::count, 0, 7, 3, 10, 40, 4, 4, 0, 20);
        dues("came", x::came, 0, 3, 5, 15, 6);
        dues("the FAULT", x::fault, 0, 2, 6);
        due("the TRAY that was laid", x.write(0, 4, 1L << 40), 1L << 40);
        due("the TRAY that was laid", x.write(1, 59, 300), 44);
        due("the tape", x.club(6), 1);
        due("fog", x.count(3), 7);
    }

    /** For each call with several throws those that come ahead of another one. */
    private static void severalThrows() {
        says("Of several throws of a call that one comes that is told first.");
        refused("member(4, 7)", ELEMENT, y -> y.member(4, 7));
        refused("told(16)", STATE, WeekRows::sixty, y -> y.told(16));
        refused("thought(4, 7)", ELEMENT, y -> y.thought(4, 7));
        refused("judge(4, 2)", ELEMENT, y -> y.judge(4, 2));
        refused("judge(1, 2)", STATE, y -> y.judge(1, 2));
        refused("gain(16, 4)", ELEMENT, y -> y.gain(16, 4));
        refused("turnsBy(4, 2)", ELEMENT, y -> y.turnsBy(4, 2));
        refused("turnsBy(1, 2)", STATE, y -> y.turnsBy(1, 2));
        refused("two(0, 0, 0) of nine", ARGUMENT, has(never(9)), y -> y.two(0, 0, 0));
        refused("chances(4, 0, 0)", ELEMENT, y -> y.chances(4, 0, 0));
        refused("chances(1, 0, 0)", STATE, y -> y.chances(1, 0, 0));
        refused("hope(4, 1, 0, 2)", ELEMENT, y -> y.hope(4, 1, 0, 2));
        refused("worth(4, 0)", ELEMENT, y -> y.worth(4, 0));
        refused("bestRule(4, 0, 3)", ELEMENT, y -> y.bestRule(4, 0, 3));
        refused("tray(4, 4, 61)", ELEMENT, y -> tray(y, 4, 4, 61));
        refused("write(4, 60, 0)", ELEMENT, y -> y.write(4, 60, 0));
        refused("write(1, 60, 0)", STATE, y -> y.write(1, 60, 0));
        refused("write(1, -1, 0)", STATE, y -> y.write(1, -1, 0));
        refused("pour(4)", ELEMENT, NEW, y -> y.pour(4));
        refused("restore(3)", ELEMENT, NEW, y -> restore(y, 3));
    }

    /** Each call that may throw, all of them on one object. */
    private static void nothingChanges() {
        says("A call that throws changes nothing.");
        NobodysTuesday x = made(Rows::rich);
        refuseClubWeeksAndRest(x);
        refuseOddsToImages(x);
        same("all of them", x, made(Rows::rich));
        NobodysTuesday late = made(WeekRows::sixty);
        thrown("week(1)", STATE, late, y -> y.week(1));
        thrown("told(1)", STATE, late, y -> y.told(1));
        same("both of them", late, made(WeekRows::sixty));
    }

    private static void refuseClubWeeksAndRest(NobodysTuesday x) {
        thrown("club(61)", ARGUMENT, x, y -> y.club(61));
        thrown("club(-1)", ARGUMENT, x, y -> y.club(-1));
        thrown("member(4, 0)", ELEMENT, x, y -> y.member(4, 0));
        thrown("member(0, 7)", ARGUMENT, x, y -> y.member(0, 7));
        thrown("quota(0)", ARGUMENT, x, y -> y.quota(0));
        thrown("quota(13)", ARGUMENT, x, y -> y.quota(13));
        thrown("told(16)", ARGUMENT, x, y -> y.told(16));
        thrown("back(5)", ARGUMENT, x, y -> y.back(5));
        thrown("back(-1)", ARGUMENT, x, y -> y.back(-1));
        thrown("came(4)", ELEMENT, x, y -> y.came(4));
        thrown("met(4)", ELEMENT, x, y -> y.met(4));
        thrown("hats(4)", ELEMENT, x, y -> y.hats(4));
        thrown("thought(4, 0)", ELEMENT, x, y -> y.thought(4, 0));
        thrown("thought(0, 7)", ARGUMENT, x, y -> y.thought(0, 7));
        thrown("judge(4, 0)", ELEMENT, x, y -> y.judge(4, 0));
        thrown("judge(1, 0)", STATE, x, y -> y.judge(1, 0));
        thrown("judge(0, 2)", ARGUMENT, x, y -> y.judge(0, 2));
        thrown("gain(0, 4)", ELEMENT, x, y -> y.gain(0, 4));
        thrown("gain(16, 0)", ARGUMENT, x, y -> y.gain(16, 0));
        thrown("rests(16)", ARGUMENT, x, y -> y.rests(16));
        thrown("strong(16)", ARGUMENT, x, y -> y.strong(16));
        thrown("turnsBy(4, 0)", ELEMENT, x, y -> y.turnsBy(4, 0));
        thrown("turnsBy(1, 0)", STATE, x, y -> y.turnsBy(1, 0));
        thrown("turnsBy(2, 0)", ARGUMENT, x, y -> y.turnsBy(2, 0));
        thrown("turnsBy(0, 2)", ARGUMENT, x, y -> y.turnsBy(0, 2));
        thrown("two(0, 0, 0)", ARGUMENT, x, y -> y.two(0, 0, 0));
        thrown("two(1, 1000, 0)", ARGUMENT, x, y -> y.two(1, 1000, 0));
        thrown("pay(16)", ARGUMENT, x, y -> y.pay(16));
        thrown("pivots(16)", ARGUMENT, x, y -> y.pivots(16));
        thrown("replies(16, 0)", ARGUMENT, x, y -> y.replies(16, 0));
        thrown("replies(0, 2)", ARGUMENT, x, y -> y.replies(0, 2));
        thrown("bribe(16)", ARGUMENT, x, y -> y.bribe(16));
        thrown("leastBribe(2)", ARGUMENT, x, y -> y.leastBribe(2));
        thrown("contract(2)", ARGUMENT, x, y -> y.contract(2));
    }

    private static void refuseOddsToImages(NobodysTuesday x) {
        thrown("odds(2, 1, 0)", ARGUMENT, x, y -> y.odds(2, 1, 0));
        thrown("odds(0, 21, 0)", ARGUMENT, x, y -> y.odds(0, 21, 0));
        thrown("bestOdds(21)", ARGUMENT, x, y -> y.bestOdds(21));
        thrown("chances(4, 1, 0)", ELEMENT, x, y -> y.chances(4, 1, 0));
        thrown("chances(1, 1, 0)", STATE, x, y -> y.chances(1, 1, 0));
        thrown("chances(0, 1, 0)", ARGUMENT, x, y -> y.chances(0, 1, 0));
        thrown("chances(0, 21, 0)", ARGUMENT, x, y -> y.chances(0, 21, 0));
        thrown("hope(4, 0, 1, 0)", ELEMENT, x, y -> y.hope(4, 0, 1, 0));
        thrown("hope(0, 2, 1, 0)", ARGUMENT, x, y -> y.hope(0, 2, 1, 0));
        thrown("hope(0, 0, 1, 2)", ARGUMENT, x, y -> y.hope(0, 0, 1, 2));
        thrown("ahead(61, 0)", ARGUMENT, x, y -> y.ahead(61, 0));
        thrown("ahead(60, 160)", ARGUMENT, x, y -> y.ahead(60, 160));
        thrown("ring(2)", ARGUMENT, x, y -> y.ring(2));
        thrown("worth(4, 1)", ELEMENT, x, y -> y.worth(4, 1));
        thrown("worth(0, 61)", ARGUMENT, x, y -> y.worth(0, 61));
        thrown("bestQuota(61)", ARGUMENT, x, y -> y.bestQuota(61));
        thrown("bestRule(4, 1, 0)", ELEMENT, x, y -> y.bestRule(4, 1, 0));
        thrown("bestRule(0, 31, 0)", ARGUMENT, x, y -> y.bestRule(0, 31, 0));
        thrown("bestRule(0, 1, 3)", ARGUMENT, x, y -> y.bestRule(0, 1, 3));
        thrown("streak(2)", ARGUMENT, x, y -> y.streak(2));
        thrown("together(0, 4)", ELEMENT, x, y -> y.together(0, 4));
        thrown("doubts(4, 0)", ELEMENT, x, y -> y.doubts(4, 0));
        thrown("doubts(0, 4)", ELEMENT, x, y -> y.doubts(0, 4));
        thrown("cook(4)", ARGUMENT, x, y -> y.cook(4));
        thrown("guess(4)", ARGUMENT, x, y -> y.guess(4));
        thrown("tray(4, 0, 1)", ELEMENT, x, y -> tray(y, 4, 0, 1));
        thrown("tray(0, 4, 1)", ARGUMENT, x, y -> tray(y, 0, 4, 1));
        thrown("tray(0, 0, 61)", ARGUMENT, x, y -> tray(y, 0, 0, 61));
        thrown("write(4, 0, 9)", ELEMENT, x, y -> y.write(4, 0, 9));
        thrown("write(1, 0, 9)", STATE, x, y -> y.write(1, 0, 9));
        thrown("write(0, 4, 9)", INDEX, x, y -> y.write(0, 4, 9));
        thrown("write(0, -1, 9)", INDEX, x, y -> y.write(0, -1, 9));
        thrown("pour(4)", ELEMENT, x, y -> y.pour(4));
        thrown("pour(1)", STATE, x, y -> y.pour(1));
        thrown("image(3)", ELEMENT, x, y -> image(y, 3));
        thrown("restore(3)", ELEMENT, x, y -> restore(y, 3));
        thrown("restore(0)", STATE, x, y -> restore(y, 0));
    }

    // ---- promises 48 and 49

    private static void laying() {
        promise(48);
        says("A TRAY is a row of so many 0s.");
        NobodysTuesday x = new NobodysTuesday();
        for (int many : new int[] {60, 0, 1, 60, 7, 59, 60}) {
            x.tray(0, 0, many);
            due("all are 0", x.judge(0, 0), NONE);
            places(x, 0, many);
            due("none is 0", x.judge(0, 0), many == 0 ? NONE : 0);
        }
        x.tray(0, 3, 60);
        due("all are 0", x.judge(0, 0), NONE);
        x = club(never(2));
        fill(x, 1, 0, 1, 0);
        due("an order", x.turnsBy(1, 0), 2);
        x.tray(1, 3, 2);
        due("0s again", x.chances(1, 1, 0), 1);
        due("64 bits now", x.write(1, 0, 1L << 40), 1L << 40);
        x.tray(1, 0, 2);
        due("8 bits again", x.write(1, 0, 1L << 40), 0);

        says("NoSuchElementException: no such TRAY;");
        for (int tray : new int[] {-1, 4, LEAST, MOST}) {
            refused("tray(" + tray + ", 0, 2)", ELEMENT, y -> tray(y, tray, 0, 2));
            // This one is told first.
            refused("tray(" + tray + ", 4, 2)", ELEMENT, y -> tray(y, tray, 4, 2));
            refused("tray(" + tray + ", 0, 61)", ELEMENT, y -> tray(y, tray, 0, 61));
        }

        says("IllegalArgumentException: no such sort,");
        for (int sort : new int[] {-1, 4, LEAST, MOST}) {
            refused("tray(0, " + sort + ", 2)", ARGUMENT, y -> tray(y, 0, sort, 2));
            refused("tray(1, " + sort + ", 2)", ARGUMENT, y -> tray(y, 1, sort, 2));
        }

        says("or not so many.");
        for (int many : new int[] {-1, 61, LEAST, MOST}) {
            refused("tray(0, 0, " + many + ")", ARGUMENT, y -> tray(y, 0, 0, many));
            refused("tray(3, 3, " + many + ")", ARGUMENT, y -> tray(y, 3, 3, many));
        }
        refused("tray(0, 4, 61)", ARGUMENT, y -> tray(y, 0, 4, 61));
    }

    private static void writing() {
        promise(49);
        says("A number comes to a place of a TRAY, cut to its sort: as it is there.");
        long[][] cuts = {{0, 300, 44}, {0, 128, -128}, {0, 127, 127}, {0, -128, -128}, {0, -129, 127}, {0, 255, -1},
                {0, 256, 0}, {0, Long.MAX_VALUE, -1}, {0, Long.MIN_VALUE, 0}, {1, 32767, 32767}, {1, 32768, -32768},
                {1, -32769, 32767}, {1, 40000, -25536}, {1, 65535, -1}, {1, 65536, 0}, {2, MOST, MOST}, {2, LEAST, LEAST},
                {2, 1L << 31, LEAST}, {2, -(1L << 31) - 1, MOST}, {2, (1L << 32) + 5, 5}, {2, (1L << 32) - 1, -1},
                {3, 1L << 40, 1L << 40}, {3, Long.MIN_VALUE, Long.MIN_VALUE}, {3, Long.MAX_VALUE, Long.MAX_VALUE}};
        NobodysTuesday x = club(never(2));
        for (long[] cut : cuts) {
            x.tray(2, (int) cut[0], 1);
            due("write " + cut[1] + " of sort " + cut[0], x.write(2, 0, cut[1]), cut[2]);
        }
        // As it is there it is asked for, too: 257 of 8 bits is 1, of 16 it is not.
        fill(x, 0, 0, 257, 256);
        due("chances", x.chances(0, 1, 1), 1);
        due("turnsBy", x.turnsBy(0, 1), 1);
        fill(x, 0, 1, 257, 256);
        thrown("chances", ARGUMENT, x, y -> y.chances(0, 20, 1));
        // Each place by itself, the last one stays.
        fill(x, 3, 0, 1, 1);
        x.write(3, 0, 0);
        due("turnsBy", x.turnsBy(3, 1), 0);
        for (int tray : new int[] {-1, 4, LEAST, MOST}) {
            refused("write(" + tray + ", 0, 9)", ELEMENT, y -> y.write(tray, 0, 9));
            // This one is told first.
            refused("write(" + tray + ", 60, 9)", ELEMENT, y -> y.write(tray, 60, 9));
        }

        says("IllegalStateException: it is MISSING;");
        for (int tray : new int[] {1, 3}) {
            refused("write(" + tray + ", 0, 9)", STATE, y -> y.write(tray, 0, 9));
            // This one is told ahead of the place.
            refused("write(" + tray + ", -1, 9)", STATE, y -> y.write(tray, -1, 9));
            refused("write(" + tray + ", 60, 9)", STATE, y -> y.write(tray, 60, 9));
        }

        says("IndexOutOfBoundsException: it has no such place.");
        due("write(0, 3, 9)", made(Rows::rich).write(0, 3, 9), 9);
        for (int place : new int[] {-1, 4, 59, 60, LEAST, MOST}) {
            refused("write(0, " + place + ", 9)", INDEX, y -> y.write(0, place, 9));
        }
        refused("write(3, 0, 9) of none", INDEX, y -> y.tray(3, 0, 0), y -> y.write(3, 0, 9));
        refused("write(3, 60, 9) of 60", INDEX, y -> y.tray(3, 0, 60), y -> y.write(3, 60, 9));
        // Places that a longer row before it had.
        refused("write(3, 2, 9) of 2", INDEX, y -> {
            y.tray(3, 0, 60);
            y.tray(3, 0, 2);
        }, y -> y.write(3, 2, 9));
    }

    // ---- promise 50

    private static void pouring() {
        promise(50);
        says("Who came in all WEEKS that went by, SET by SET, comes into a TRAY from its first place on, cut to its sort, as many as"
                + " it has places: how many.");
        NobodysTuesday x = weeks(never(2), 1, 0, 3);
        x.tray(0, 0, 2);
        due("as many as places", x.pour(0), 2);
        due("1, 0: an order", x.turnsBy(0, 1), 1);
        x.tray(0, 0, 3);
        due("just as many", x.pour(0), 3);
        x = weeks(never(3), 2, 1);
        fill(x, 0, 0, 0, 0, 0);
        due("as many as WEEKS", x.pour(0), 2);
        due("2, 1, and the 0 stays", x.turnsBy(0, 1), 2);
        x = weeks(never(3), 2, 0, 3);
        x.back(1);
        fill(x, 0, 0, 0, 0, 1);
        due("as many as WEEKS", x.pour(0), 2);
        due("2, 0, and the 1 stays", x.turnsBy(0, 1), 2);
        x.tray(1, 0, 0);
        due("no places", x.pour(1), 0);
        x = club(never(3));
        fill(x, 0, 0, 1, 2, 0);
        due("no WEEKS", x.pour(0), 0);
        due("all stays", x.turnsBy(0, 1), 1);
        for (int many : new int[] {59, 60}) {
            x = made(WeekRows::sixty);
            x.tray(2, 0, many);
            due("60 WEEKS, " + many + " places", x.pour(2), many);
        }
        pouredAsItWent();
        cutPours();

        says("NoSuchElementException: no such TRAY;");
        for (int tray : new int[] {-1, 4, LEAST, MOST}) {
            refused("pour(" + tray + ")", ELEMENT, y -> y.pour(tray));
            refused("pour(" + tray + ") of a new object", ELEMENT, NEW, y -> y.pour(tray));
        }

        says("IllegalStateException: it is MISSING.");
        refused("pour(1)", STATE, y -> y.pour(1));
        refused("pour(3)", STATE, y -> y.pour(3));
        refused("pour(0) of a new object", STATE, NEW, y -> y.pour(0));
        due("pour(2)", made(Rows::rich).pour(2), 2);
    }

    /** 60 WEEKS that were poured are those that would go by again. */
    private static void pouredAsItWent() {
        NobodysTuesday x = club("member other;member every 5;member over 1;member every 7;");
        for (int i = 0; i < 60; i++) {
            x.week(i);
        }
        x.tray(1, 0, 60);
        due("pour(1)", x.pour(1), 60);
        x.back(60);
        due("judge(1, 0)", x.judge(1, 0), NONE);
        x.write(1, 59, 15);
        due("judge(1, 0)", x.judge(1, 0), 59);
    }

    private static void cutPours() {
        // SETS of nine cut to 8 bits, asked for as the next SET of a club.
        NobodysTuesday x = weeks(never(9), 256 + 5);
        x.tray(0, 0, 1);
        x.tray(1, 1, 1);
        x.pour(0);
        x.pour(1);
        read(x, "member always;member never;member always;");
        due("261 of 8 bits is 5", x.judge(0, 0), NONE);
        due("261 of 16 bits is not", x.judge(1, 0), 0);
        x = weeks("member always;".repeat(8), 255);
        x.tray(0, 0, 1);
        x.tray(1, 1, 1);
        x.pour(0);
        x.pour(1);
        due("255 of 8 bits is -1", x.judge(0, 0), 0);
        due("255 of 16 bits is 255", x.judge(1, 0), NONE);
        x = weeks("member always;".repeat(7), 127);
        x.tray(0, 0, 1);
        x.pour(0);
        due("127 of 8 bits is 127", x.judge(0, 0), NONE);
        x = weeks("member always;".repeat(12), 4095);
        for (int sort = 1; sort < 4; sort++) {
            x.tray(sort, sort, 1);
            x.pour(sort);
            due("4095 of sort " + sort, x.judge(sort, 0), NONE);
        }
    }

    // ---- promises 51 to 53

    private static void imaging() {
        promise(51);
        says("An IMAGE is made.");
        NobodysTuesday x = new NobodysTuesday();
        x.image(0);
        due("an IMAGE of a club without a text", read(x, "quota 7;member always;"), 2);
        x.image(1);
        x.told(1);
        x.image(2);
        x.restore(0);
        dues("count", x::count, 0, 0, 1, 10, 0, 0, 0, 0);
        x.restore(1);
        dues("count", x::count, 0, 2, 7, 10, 0, 1, 0, 0);
        x.restore(2);
        dues("count", x::count, 0, 2, 7, 10, 0, 1, 1, 0);
        // Made anew it is as it is now.
        x.quota(1);
        x.image(0);
        x.quota(9);
        x.restore(0);
        dues("count", x::count, 0, 2, 1, 10, 0, 1, 1, 1);
        x.restore(1);
        due("the others are as they were", x.count(1), 7);

        says("NoSuchElementException: no such one.");
        for (int i : new int[] {-1, 3, LEAST, MOST}) {
            refused("image(" + i + ")", ELEMENT, y -> image(y, i));
            refused("image(" + i + ") of a new object", ELEMENT, NEW, y -> image(y, i));
        }
    }

    private static void restoring() {
        promise(52);
        says("All is as in an IMAGE.");
        NobodysTuesday x = weeks("quota 2;dinner 8;fog 3;member always cost 2 umbrella;member under 7;", 3, 1);
        x.image(2);
        read(x, "quota 13;");
        read(x, "quota 5;dinner 6;fog 7;member never;member never;member over 1 cost 9;");
        x.told(7);
        x.told(6);
        x.told(5);
        x.image(0);
        fill(x, 1, 0, 1, 0);
        read(x, "fog 101;");
        lay(x, "quota 1;");
        for (int again = 0; again < 2; again++) {
            x.restore(2);
            dues("count", x::count, 0, 5, 2, 8, 3, 2, 2, 1, 20);
            int[][] members = {{0, 0, 2, 1, 2, 1, 4}, {4, 7, 0, 0, 1, 1, 8}};
            for (int what = 0; what < 7; what++) {
                due("member(0, " + what + ")", x.member(0, what), members[0][what]);
                due("member(1, " + what + ")", x.member(1, what), members[1][what]);
            }
            dues("came", x::came, 0, 3, 1);
            dues("the FAULT stays", x::fault, 0, 3, 4);
            due("the TRAY stays", x.turnsBy(1, 1), 1);
            due("rest(-1)", x.rest(-1), 2);
            due("inTurn", x.inTurn(), 3);
            due("thought(1, 1)", x.thought(1, 1), true);
            // What is done now leaves the IMAGE alone.
            x.quota(9);
            x.back(2);
            x.told(2);
            read(x, "dinner 3;member never cost 7;");
            read(x, "fog 101;");
            lay(x, "quota 1;");
        }
        x.restore(0);
        due("the other IMAGE", x.count(4), 3);
        due("the other IMAGE", x.came(2), 5);
        due("the other IMAGE", x.bribe(7), 9);
        // An IMAGE does not take those that were made since with it.
        x.image(1);
        x.restore(2);
        x.restore(1);
        due("the IMAGE of the other", x.count(4), 3);
        weighedAsItWas();
        full();

        says("NoSuchElementException: no such one;");
        for (int i : new int[] {-1, 3, LEAST, MOST}) {
            refused("restore(" + i + ")", ELEMENT, y -> restore(y, i));
        }

        says("IllegalStateException: none was made.");
        refused("restore(0)", STATE, y -> restore(y, 0));
        refused("restore(2)", STATE, y -> restore(y, 2));
        due("restore(1)", restore(made(Rows::rich), 1), 0);
        refused("restore(1) behind image(0)", STATE, y -> y.image(0), y -> restore(y, 1));
    }

    /** Who has by coming what, is as it was, too. */
    private static void weighedAsItWas() {
        NobodysTuesday x = club("quota 3;dinner 5;member never cost 1;member never cost 9;member never;");
        x.image(0);
        read(x, "quota 3;dinner 5;member never;member never cost 5;member never cost 7;");
        x.image(1);
        for (int set = 0; set < 8; set++) {
            x.restore(0);
            due("rests(" + set + ") of IMAGE 0", x.rests(set), set == 0 || set == 4);
            x.quota(2);
            due("rests(" + set + ") of IMAGE 0 by quota 2", x.rests(set), set == 0 || set == 5);
            x.restore(1);
            due("rests(" + set + ") of IMAGE 1", x.rests(set), set == 0 || set == 1);
            x.quota(2);
            due("rests(" + set + ") of IMAGE 1 by quota 2", x.rests(set), set == 0 || set == 1 || set == 3);
        }
    }

    /** Of twelve MEMBERS and 60 WEEKS the last ones are as they were, too. */
    private static void full() {
        NobodysTuesday x = club("quota 12;" + never(11) + "member think 6 cost 7 umbrella;");
        for (int i = 0; i < 60; i++) {
            x.told(4095 - i);
        }
        x.image(0);
        read(x, "quota 12;" + "member every 5 cost 3;".repeat(12));
        for (int i = 0; i < 60; i++) {
            x.told(i);
        }
        x.image(2);
        x.restore(0);
        int[] last = {9, 6, 7, 1, 60, 1, 10 - 60 * 7};
        for (int what = 0; what < 7; what++) {
            due("member(11, " + what + ")", x.member(11, what), last[what]);
        }
        due("came(59)", x.came(59), 4095 - 59);
        due("member(10, 0)", x.member(10, 0), 1);
        x.restore(2);
        int[] other = {6, 5, 3, 0, 0, 0, 0};
        for (int what = 0; what < 7; what++) {
            due("member(11, " + what + ")", x.member(11, what), other[what]);
        }
        due("came(59)", x.came(59), 59);
    }

    private static void counting() {
        promise(53);
        says("0 LINES, 1 quota, 2 dinner, 3 fog, 4 MEMBERS, 5 WEEK, 6 WEEKS in which it MET, 7 bytes on the tape;");
        NobodysTuesday x = weeks("quota 3;dinner 40;fog 5;" + never(4), 7, 1, 14);
        lay(x, "quota");
        dues("count", x::count, 0, 7, 3, 40, 5, 4, 3, 2, 20);
        dues("count of a new object", new NobodysTuesday()::count, 0, 0, 1, 10, 0, 0, 0, 0, 0);
        x = club("quota 12;dinner 999;fog 100;" + "member always;".repeat(12));
        for (int i = 0; i < 60; i++) {
            x.week(i);
        }
        lay(x, " ".repeat(700));
        dues("count", x::count, 0, 15, 12, 999, 100, 12, 60, 60, 700);

        says("NONE for others.");
        dueOf("count", x::count, NONE, -1, 8, 9, LEAST, MOST);
        dueOf("count of a new object", new NobodysTuesday()::count, NONE, -1, 8, LEAST, MOST);
    }
}
