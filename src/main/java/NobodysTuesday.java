import java.util.NoSuchElementException;

/**
 * A club told as a text, that meets if just so many come. The document
 * ../shared/DOC.md says what each call promises; its words are used here.
 * All rows are made by the constructor and used again, so that no call but a
 * throwing one makes an object.
 */
public final class NobodysTuesday {
    public static final int NONE = -1;

    private static final int MOST_BYTES = 700;
    private static final int FED_BYTES = 20;
    private static final int MOST_MEMBERS = 12;
    private static final int MOST_QUOTA = 12;
    private static final int MOST_COINS = 999;
    private static final int MOST_FOG = 100;
    private static final int MOST_WEEKS = 60;
    private static final int MOST_AHEAD = 60;
    private static final int MOST_RULE_WEEKS = 30;
    private static final int MOST_RING = 400;
    private static final int DEEPEST = 6;
    private static final int MOST_REPLIES = 4096;
    private static final int MOST_OF = 20;
    private static final int MOST_IN_TWO = 8;
    private static final int TRAYS = 4;
    private static final int PLACES = 60;
    private static final int IMAGES = 3;
    private static final int AHEAD_SETS = 100;

    private static final int ALWAYS = 0;
    private static final int NEVER = 1;
    private static final int SAME = 2;
    private static final int OTHER = 3;
    private static final int UNDER = 4;
    private static final int OVER = 5;
    private static final int EVERY = 6;
    private static final int HATS = 7;
    private static final int SEES = 8;
    private static final int THINK = 9;
    private static final int LEARNS = 10;
    private static final int RULES = 11;

    // Bounds of N by RULE; a RULE without one has just 0.
    private static final int[] LEAST_N = {0, 0, 0, 0, 0, 0, 1, 0, 0, 0, 0};
    private static final int[] MOST_N = {0, 0, 0, 0, 12, 12, 12, 12, 12, 6, 0};

    private Club club = new Club();
    // A text is read into the draft, so that a FAULT leaves the club alone.
    private Club draft = new Club();
    // What if: a club like this one but for a quota or a RULE.
    private final Club trial = new Club();
    private final Reader reader = new Reader(draft);
    private final Course course = new Course(trial);
    private final Turns turns = new Turns();
    private final TwoClubs twoClubs = new TwoClubs(trial);
    private final Tray[] trays = new Tray[TRAYS];
    private final Club[] images = new Club[IMAGES];
    private final boolean[] imageMade = new boolean[IMAGES];
    private final int[] ringSets = new int[MOST_RING + 1];
    private final long[] ways = new long[MOST_MEMBERS + 1];

    public NobodysTuesday() {
        for (int i = 0; i < TRAYS; i++) {
            trays[i] = new Tray();
        }
        for (int i = 0; i < IMAGES; i++) {
            images[i] = new Club();
        }
    }

    // ---- the club

    public int feed(int a, int b, int c, int d, int e) {
        if (reader.length + FED_BYTES > MOST_BYTES) {
            return NONE;
        }
        reader.lay(a);
        reader.lay(b);
        reader.lay(c);
        reader.lay(d);
        reader.lay(e);
        return reader.length;
    }

    public int club(int n) throws IllegalArgumentException {
        requireWithin(n, 0, reader.length);
        boolean faultless = reader.read(n, draft);
        reader.length = 0;
        if (!faultless) {
            return -10 - reader.fault;
        }
        Club before = club;
        club = draft;
        draft = before;
        return club.lines;
    }

    public int fault(int what) {
        switch (what) {
            case 0:
                return reader.fault;
            case 1:
                return reader.place;
            default:
                return NONE;
        }
    }

    public int member(int m, int what) throws NoSuchElementException, IllegalArgumentException {
        requireMember(m);
        switch (what) {
            case 0:
                return club.rule[m];
            case 1:
                return club.number[m];
            case 2:
                return club.cost[m];
            case 3:
                return club.umbrellas >> m & 1;
            case 4:
                return club.weeksOf(1 << m);
            case 5:
                return club.dinnersOf(m);
            case 6:
                return club.dinnersOf(m) * club.dinner - club.weeksOf(1 << m) * club.cost[m];
            default:
                throw new IllegalArgumentException();
        }
    }

    public int quota(int n) throws IllegalArgumentException {
        requireWithin(n, 1, MOST_QUOTA);
        int before = club.quota;
        club.quota = n;
        return before;
    }

    // ---- weeks

    public int week(int seed) throws IllegalStateException {
        requireRoomForWeek();
        course.start(club);
        int set = course.comersInFog(seed);
        club.addWeek(set);
        return set;
    }

    public boolean told(int set) throws IllegalStateException, IllegalArgumentException {
        requireRoomForWeek();
        requireSet(set);
        club.addWeek(set);
        return club.meets(set);
    }

    public int back(int n) throws IllegalArgumentException {
        requireWithin(n, 0, club.week);
        club.week -= n;
        return club.week;
    }

    public int came(int week) throws NoSuchElementException {
        requireWeek(week);
        return club.sets[week];
    }

    public boolean met(int week) throws NoSuchElementException {
        requireWeek(week);
        return club.meets(club.sets[week]);
    }

    public int next() {
        course.start(club);
        return course.comers();
    }

    public int hats(int m) throws NoSuchElementException {
        requireMember(m);
        course.start(club);
        return Integer.bitCount(club.hatsAhead(m, course.comers()));
    }

    public boolean thought(int m, int d) throws NoSuchElementException, IllegalArgumentException {
        requireMember(m);
        requireWithin(d, 0, DEEPEST);
        return club.has(club.thoughts(club.lastSet(), d), m);
    }

    public int settled() {
        int thoughts = club.lastSet();
        int since = 0;
        for (int depth = 1; depth <= DEEPEST; depth++) {
            int deeper = club.thoughts(thoughts, 1);
            if (deeper != thoughts) {
                since = depth;
            }
            thoughts = deeper;
        }
        return since == DEEPEST ? NONE : since;
    }

    public int judge(int tray, int what)
            throws NoSuchElementException, IllegalStateException, IllegalArgumentException {
        Tray row = laidTray(tray);
        requireWithin(what, 0, 1);
        course.start(club);
        for (int place = 0; place < row.many; place++) {
            int set = course.go();
            if (row.numbers[place] != set) {
                return what == 0 ? place : set;
            }
        }
        return NONE;
    }

    // ---- at rest

    public int gain(int set, int m) throws NoSuchElementException, IllegalArgumentException {
        requireMember(m);
        requireSet(set);
        return club.gainOf(m, set);
    }

    public boolean rests(int set) throws IllegalArgumentException {
        requireSet(set);
        return club.eager(set) == 0;
    }

    public int rest(int k) {
        int found = 0;
        for (int set = 0; set <= club.everyone(); set++) {
            if (club.eager(set) == 0) {
                if (found == k) {
                    return set;
                }
                found++;
            }
        }
        return k == NONE ? found : NONE;
    }

    public boolean strong(int set) throws IllegalArgumentException {
        requireSet(set);
        return club.isStrong(set);
    }

    public int strongs(int k) {
        int found = 0;
        for (int set = 0; set <= club.everyone(); set++) {
            if (club.isStrong(set)) {
                if (found == k) {
                    return set;
                }
                found++;
            }
        }
        return k == NONE ? found : NONE;
    }

    public int inTurn() {
        for (int m = 0; m < club.members; m++) {
            turns.order[m] = m;
        }
        return turns.play(club);
    }

    public int turnsBy(int tray, int what)
            throws NoSuchElementException, IllegalStateException, IllegalArgumentException {
        Tray row = laidTray(tray);
        requireWithin(what, 0, 1);
        takeOrder(row);
        int coming = turns.play(club);
        return what == 0 ? coming : turns.firstOf(club, coming);
    }

    private void takeOrder(Tray row) {
        if (row.many != club.members) {
            throw new IllegalArgumentException();
        }
        int taken = 0;
        for (int place = 0; place < club.members; place++) {
            long m = row.numbers[place];
            if (m < 0 || m >= club.members || club.has(taken, (int) m)) {
                throw new IllegalArgumentException();
            }
            taken |= 1 << (int) m;
            turns.order[place] = (int) m;
        }
    }

    public int two(int quota, int dinner, int k) throws IllegalArgumentException, IllegalStateException {
        requireWithin(quota, 1, MOST_QUOTA);
        requireWithin(dinner, 0, MOST_COINS);
        if (club.members > MOST_IN_TWO) {
            throw new IllegalStateException();
        }
        return twoClubs.find(club, quota, dinner, k);
    }

    public int bestRest() {
        int best = NONE;
        int most = 0;
        for (int set = 0; set <= club.everyone(); set++) {
            if (club.eager(set) == 0) {
                int coins = club.payOfAll(set);
                if (best == NONE || coins > most) {
                    best = set;
                    most = coins;
                }
            }
        }
        return best;
    }

    public int pay(int set) throws IllegalArgumentException {
        requireSet(set);
        return club.payOfAll(set);
    }

    public int pivots(int set) throws IllegalArgumentException {
        requireSet(set);
        int pivotal = 0;
        for (int m = 0; m < club.members; m++) {
            if (club.meets(set ^ 1 << m) != club.meets(set)) {
                pivotal |= 1 << m;
            }
        }
        return pivotal;
    }

    public int replies(int set, int what) throws IllegalArgumentException {
        requireSet(set);
        requireWithin(what, 0, 1);
        int now = set;
        for (int done = 0; done <= MOST_REPLIES; done++) {
            int eager = club.eager(now);
            if (eager == 0) {
                return what == 0 ? now : done;
            }
            // The lowest bit of them is the first MEMBER's.
            now ^= eager & -eager;
        }
        return NONE;
    }

    public int bribe(int set) throws IllegalArgumentException {
        requireSet(set);
        return club.bribeFor(set);
    }

    public int leastBribe(int what) throws IllegalArgumentException {
        requireWithin(what, 0, 1);
        int best = NONE;
        int fewest = NONE;
        for (int set = 0; set <= club.everyone(); set++) {
            if (club.meets(set)) {
                int coins = club.bribeFor(set);
                if (best == NONE || coins < fewest) {
                    best = set;
                    fewest = coins;
                }
            }
        }
        return what == 0 ? fewest : best;
    }

    public int contract(int what) throws IllegalArgumentException {
        requireWithin(what, 0, 1);
        int best = NONE;
        int fewest = NONE;
        for (int set = 0; set <= club.everyone(); set++) {
            if (club.meets(set)) {
                int coins = club.costOfAll(set);
                if (best == NONE || coins < fewest) {
                    best = set;
                    fewest = coins;
                }
            }
        }
        return what == 0 ? fewest : best;
    }

    // ---- odds

    public long odds(int a, int b, int k) throws IllegalArgumentException {
        requireChance(a, b);
        return waysThat(club.members, k, a, b);
    }

    public int bestOdds(int b) throws IllegalArgumentException {
        requireWithin(b, 1, MOST_OF);
        int best = 0;
        long most = 0;
        for (int a = 0; a <= b; a++) {
            long meeting = waysThat(club.members, club.quota, a, b);
            if (meeting > most) {
                best = a;
                most = meeting;
            }
        }
        return best;
    }

    public long chances(int tray, int b, int k)
            throws NoSuchElementException, IllegalStateException, IllegalArgumentException {
        Tray row = laidTray(tray);
        requireWithin(b, 1, MOST_OF);
        requireChances(row, b);
        if (k < 0 || k > club.members) {
            return 0;
        }
        ways[0] = 1;
        for (int m = 0; m < club.members; m++) {
            long comes = row.numbers[m];
            ways[m + 1] = ways[m] * comes;
            for (int coming = m; coming > 0; coming--) {
                ways[coming] = ways[coming] * (b - comes) + ways[coming - 1] * comes;
            }
            ways[0] *= b - comes;
        }
        return ways[k];
    }

    public long hope(int m, int a, int b, int what) throws NoSuchElementException, IllegalArgumentException {
        requireMember(m);
        requireChance(a, b);
        requireWithin(what, 0, 1);
        int others = club.members - 1;
        long all = Math.max(1, power(b, others));
        long coins = club.dinner * waysThat(others, club.quota - 1, a, b) - club.cost[m] * all;
        return what == 0 ? Math.floorDiv(coins, all) : Math.floorMod(coins, all);
    }

    // ---- weeks ahead

    public int ahead(int n, int what) throws IllegalArgumentException {
        requireWithin(n, 1, MOST_AHEAD);
        boolean asksSet = what >= AHEAD_SETS && what < AHEAD_SETS + n;
        if (!asksSet) {
            requireWithin(what, 0, 2);
        }
        if (what == 0) {
            return course.meetings(club, n);
        }
        course.start(club);
        int everCame = 0;
        int alwaysCame = club.everyone();
        for (int i = 0; i < n; i++) {
            int set = course.go();
            if (what == AHEAD_SETS + i) {
                return set;
            }
            everCame |= set;
            alwaysCame &= set;
        }
        return what == 1 ? club.everyone() & ~everCame : alwaysCame;
    }

    public int ring(int what) throws IllegalArgumentException {
        requireWithin(what, 0, 1);
        if (club.hasLearner()) {
            return NONE;
        }
        int round = club.roundOfWeeks();
        course.start(club);
        ringSets[0] = course.last;
        for (int end = 1; end <= MOST_RING; end++) {
            ringSets[end] = course.go();
            for (int begin = end - round; begin >= 0; begin -= round) {
                if (ringSets[begin] == ringSets[end]) {
                    return what == 0 ? end - begin : begin;
                }
            }
        }
        return NONE;
    }

    public int worth(int m, int n) throws NoSuchElementException, IllegalArgumentException {
        requireMember(m);
        requireWithin(n, 1, MOST_AHEAD);
        trial.become(club);
        trial.giveRule(m, NEVER, 0);
        trial.umbrellas &= ~(1 << m);
        return course.meetings(club, n) - course.meetings(trial, n);
    }

    public int bestQuota(int n) throws IllegalArgumentException {
        requireWithin(n, 1, MOST_AHEAD);
        trial.become(club);
        int best = 1;
        int most = 0;
        for (int quota = 1; quota <= MOST_QUOTA; quota++) {
            trial.quota = quota;
            int meetings = course.meetings(trial, n);
            if (meetings > most) {
                best = quota;
                most = meetings;
            }
        }
        return best;
    }

    public int bestRule(int m, int n, int what) throws NoSuchElementException, IllegalArgumentException {
        requireMember(m);
        requireWithin(n, 1, MOST_RULE_WEEKS);
        requireWithin(what, 0, 2);
        trial.become(club);
        int best = NONE;
        int bestNumber = 0;
        int most = 0;
        for (int rule = 0; rule < RULES; rule++) {
            for (int number = LEAST_N[rule]; number <= MOST_N[rule]; number++) {
                trial.giveRule(m, rule, number);
                int coins = course.payAhead(trial, m, n);
                if (best == NONE || coins > most) {
                    best = rule;
                    bestNumber = number;
                    most = coins;
                }
            }
        }
        if (what == 2) {
            return most;
        }
        return what == 0 ? best : bestNumber;
    }

    // ---- what was

    public int streak(int what) throws IllegalArgumentException {
        requireWithin(what, 0, 1);
        int longest = 0;
        int first = NONE;
        int row = 0;
        for (int w = 0; w < club.week; w++) {
            row = club.meets(club.sets[w]) ? row + 1 : 0;
            if (row > longest) {
                longest = row;
                first = w - row + 1;
            }
        }
        return what == 0 ? longest : first;
    }

    public int tally(int k) {
        return club.weeksOfJust(k, club.week);
    }

    public int together(int a, int b) throws NoSuchElementException {
        requireMember(a);
        requireMember(b);
        return club.weeksOf(1 << a | 1 << b);
    }

    public int friends() {
        int best = NONE;
        int most = 0;
        for (int a = 0; a < club.members; a++) {
            for (int b = a + 1; b < club.members; b++) {
                int weeks = club.weeksOf(1 << a | 1 << b);
                if (weeks > most) {
                    best = 100 * a + b;
                    most = weeks;
                }
            }
        }
        return best;
    }

    public int doubts(int m, int week) throws NoSuchElementException {
        requireMember(m);
        requireWeek(week);
        int rule = club.rule[m];
        if (rule != HATS && rule != SEES) {
            return NONE;
        }
        int set = club.sets[week];
        int hats = Integer.bitCount(club.hatsAhead(m, set));
        long allowed = 0;
        for (int seen = 0; seen <= hats; seen++) {
            if (club.comesBySeeing(m, seen) == club.has(set, m)) {
                allowed += choose(hats, seen);
            }
        }
        return (int) allowed;
    }

    // ---- cooks

    public int cook(int c) throws IllegalArgumentException {
        requireWithin(c, 0, 3);
        int score = 0;
        for (int w = 1; w < club.week; w++) {
            score += Math.abs(club.guessOf(c, w) - Integer.bitCount(club.sets[w]));
        }
        return score;
    }

    public int guess(int c) throws IllegalArgumentException {
        requireWithin(c, 0, 3);
        return club.guessOf(c, club.week);
    }

    // ---- trays, images

    public void tray(int tray, int sort, int many) throws NoSuchElementException, IllegalArgumentException {
        requireTray(tray);
        requireWithin(sort, 0, 3);
        requireWithin(many, 0, PLACES);
        trays[tray].lay(sort, many);
    }

    public long write(int tray, int place, long v)
            throws NoSuchElementException, IllegalStateException, IndexOutOfBoundsException {
        Tray row = laidTray(tray);
        if (place < 0 || place >= row.many) {
            throw new IndexOutOfBoundsException();
        }
        return row.put(place, v);
    }

    public int pour(int tray) throws NoSuchElementException, IllegalStateException {
        Tray row = laidTray(tray);
        int many = Math.min(row.many, club.week);
        for (int place = 0; place < many; place++) {
            row.put(place, club.sets[place]);
        }
        return many;
    }

    public void image(int i) throws NoSuchElementException {
        requireImage(i);
        images[i].become(club);
        imageMade[i] = true;
    }

    public void restore(int i) throws NoSuchElementException, IllegalStateException {
        requireImage(i);
        if (!imageMade[i]) {
            throw new IllegalStateException();
        }
        club.become(images[i]);
    }

    public int count(int what) {
        switch (what) {
            case 0:
                return club.lines;
            case 1:
                return club.quota;
            case 2:
                return club.dinner;
            case 3:
                return club.fog;
            case 4:
                return club.members;
            case 5:
                return club.week;
            case 6:
                return club.weeksMet();
            case 7:
                return reader.length;
            default:
                return NONE;
        }
    }

    // ---- what a call asks for first

    private static void requireWithin(int n, int least, int most) {
        if (n < least || n > most) {
            throw new IllegalArgumentException();
        }
    }

    private static void requireChance(int a, int b) {
        requireWithin(b, 1, MOST_OF);
        requireWithin(a, 0, b);
    }

    private void requireChances(Tray row, int b) {
        if (row.many != club.members) {
            throw new IllegalArgumentException();
        }
        for (int place = 0; place < row.many; place++) {
            if (row.numbers[place] < 0 || row.numbers[place] > b) {
                throw new IllegalArgumentException();
            }
        }
    }

    private void requireMember(int m) {
        if (m < 0 || m >= club.members) {
            throw new NoSuchElementException();
        }
    }

    private void requireWeek(int week) {
        if (week < 0 || week >= club.week) {
            throw new NoSuchElementException();
        }
    }

    private void requireRoomForWeek() {
        if (club.week >= MOST_WEEKS) {
            throw new IllegalStateException();
        }
    }

    private void requireSet(int set) {
        if ((set & ~club.everyone()) != 0) {
            throw new IllegalArgumentException();
        }
    }

    private static void requireImage(int i) {
        if (i < 0 || i >= IMAGES) {
            throw new NoSuchElementException();
        }
    }

    private static void requireTray(int tray) {
        if (tray < 0 || tray >= TRAYS) {
            throw new NoSuchElementException();
        }
    }

    private Tray laidTray(int tray) {
        requireTray(tray);
        Tray row = trays[tray];
        if (!row.laid) {
            throw new IllegalStateException();
        }
        return row;
    }

    // ---- counting ways

    /** Ways of b to the number of people in which just k come, each with a of b. */
    private static long waysThat(int people, int k, int a, int b) {
        if (k < 0 || k > people) {
            return 0;
        }
        return choose(people, k) * power(a, k) * power(b - a, people - k);
    }

    private static long choose(int all, int some) {
        long chosen = 1;
        for (int i = 1; i <= some; i++) {
            chosen = chosen * (all - some + i) / i;
        }
        return chosen;
    }

    private static long power(int base, int times) {
        long product = 1;
        for (int i = 0; i < times; i++) {
            product *= base;
        }
        return product;
    }

    /** THE CLUB and its WEEKS that went by: all that an IMAGE holds. */
    private static final class Club {
        int lines;
        int quota = 1;
        int dinner = 10;
        int fog;
        int members;
        int umbrellas;
        int week;
        // Who has more than 0 by coming, if it MEETS.
        int willing;
        // Who loses by coming in vain.
        int payers;
        // Who loses by coming, even if it MEETS.
        int losers;
        final int[] rule = new int[MOST_MEMBERS];
        final int[] number = new int[MOST_MEMBERS];
        final int[] cost = new int[MOST_MEMBERS];
        final int[] sets = new int[MOST_WEEKS];

        void clear() {
            lines = 0;
            quota = 1;
            dinner = 10;
            fog = 0;
            members = 0;
            umbrellas = 0;
            week = 0;
        }

        void join(int itsRule, int itsNumber, int itsCost, boolean umbrella) {
            if (members >= MOST_MEMBERS) {
                return;
            }
            rule[members] = itsRule;
            number[members] = itsNumber;
            cost[members] = itsCost;
            if (umbrella) {
                umbrellas |= 1 << members;
            }
            members++;
        }

        /** Only behind the last LINE: a dinner may be told behind MEMBERS. */
        void weigh() {
            willing = 0;
            payers = 0;
            losers = 0;
            for (int m = 0; m < members; m++) {
                willing |= cost[m] < dinner ? 1 << m : 0;
                payers |= cost[m] > 0 ? 1 << m : 0;
                losers |= cost[m] > dinner ? 1 << m : 0;
            }
        }

        void become(Club like) {
            lines = like.lines;
            quota = like.quota;
            dinner = like.dinner;
            fog = like.fog;
            members = like.members;
            umbrellas = like.umbrellas;
            week = like.week;
            willing = like.willing;
            payers = like.payers;
            losers = like.losers;
            System.arraycopy(like.rule, 0, rule, 0, MOST_MEMBERS);
            System.arraycopy(like.number, 0, number, 0, MOST_MEMBERS);
            System.arraycopy(like.cost, 0, cost, 0, MOST_MEMBERS);
            System.arraycopy(like.sets, 0, sets, 0, MOST_WEEKS);
        }

        void giveRule(int m, int itsRule, int itsNumber) {
            rule[m] = itsRule;
            number[m] = itsNumber;
        }

        void addWeek(int set) {
            if (week < MOST_WEEKS) {
                sets[week] = set;
                week++;
            }
        }

        int everyone() {
            return (1 << members) - 1;
        }

        boolean has(int set, int m) {
            return (set >> m & 1) != 0;
        }

        int lastSet() {
            return week > 0 ? sets[week - 1] : 0;
        }

        boolean meets(int set) {
            return Integer.bitCount(set) == quota;
        }

        int payOf(int m, int set) {
            if (!has(set, m)) {
                return 0;
            }
            return (meets(set) ? dinner : 0) - cost[m];
        }

        int gainOf(int m, int set) {
            return payOf(m, set ^ 1 << m) - payOf(m, set);
        }

        int payOfAll(int set) {
            int coins = meets(set) ? dinner * quota : 0;
            return coins - costOfAll(set);
        }

        int costOfAll(int set) {
            int coins = 0;
            for (int m = 0; m < members; m++) {
                coins += has(set, m) ? cost[m] : 0;
            }
            return coins;
        }

        int bribeFor(int set) {
            int coins = 0;
            for (int m = 0; m < members; m++) {
                coins += Math.max(0, gainOf(m, set));
            }
            return coins;
        }

        /** Who has a GAIN above 0; by masks, for it is asked of all SETS. */
        int eager(int set) {
            int coming = Integer.bitCount(set);
            if (coming == quota) {
                return set & losers;
            }
            int leaving = set & payers;
            return coming + 1 == quota ? leaving | willing & ~set : leaving;
        }

        /**
         * At REST who comes has 0 or more, and so never has more by leaving,
         * whatever another does: only two who both stay can both have more.
         */
        boolean isStrong(int set) {
            if (eager(set) != 0) {
                return false;
            }
            boolean twoAreWanting = Integer.bitCount(set) + 2 == quota;
            return !twoAreWanting || Integer.bitCount(willing & ~set) < 2;
        }

        /**
         * THOUGHTS so much deeper than those of a SET. Who is of it would be
         * the last of quota, if it has quota; who is not, if it has one fewer.
         */
        int thoughts(int set, int deeper) {
            int thoughts = set;
            for (int i = 0; i < deeper; i++) {
                int coming = Integer.bitCount(thoughts);
                if (coming == quota) {
                    thoughts &= willing;
                } else {
                    thoughts = coming + 1 == quota ? willing & ~thoughts : 0;
                }
            }
            return thoughts;
        }

        /** HATS at the corner that m might see (bits of whose they are). */
        int hatsAhead(int m, int coming) {
            return (coming | umbrellas) & (1 << m) - 1;
        }

        boolean comesBySeeing(int m, int seen) {
            return rule[m] == HATS ? seen < number[m] : seen == number[m];
        }

        boolean hasLearner() {
            for (int m = 0; m < members; m++) {
                if (rule[m] == LEARNS) {
                    return true;
                }
            }
            return false;
        }

        /** The least number that N of every MEMBER with every divides. */
        int roundOfWeeks() {
            int round = 1;
            for (int m = 0; m < members; m++) {
                if (rule[m] == EVERY) {
                    round = leastMultiple(round, number[m]);
                }
            }
            return round;
        }

        private static int leastMultiple(int of, int and) {
            for (int times = 1; times <= and; times++) {
                if (of * times % and == 0) {
                    return of * times;
                }
            }
            return of;
        }

        /** WEEKS in which all of a SET came. */
        int weeksOf(int set) {
            int weeks = 0;
            for (int w = 0; w < week; w++) {
                weeks += (sets[w] & set) == set ? 1 : 0;
            }
            return weeks;
        }

        int dinnersOf(int m) {
            int dinners = 0;
            for (int w = 0; w < week; w++) {
                dinners += has(sets[w], m) && meets(sets[w]) ? 1 : 0;
            }
            return dinners;
        }

        int weeksMet() {
            return weeksOfJust(quota, week);
        }

        /** WEEKS ahead of a WEEK in which just k came. */
        int weeksOfJust(int k, int until) {
            int weeks = 0;
            for (int w = 0; w < until; w++) {
                weeks += Integer.bitCount(sets[w]) == k ? 1 : 0;
            }
            return weeks;
        }

        /** What a COOK guesses for a WEEK, by those ahead of it. */
        int guessOf(int cook, int until) {
            if (until <= 0) {
                return NONE;
            }
            switch (cook) {
                case 0:
                    return Integer.bitCount(sets[until - 1]);
                case 1:
                    return comersUntil(until) / until;
                case 2:
                    return mostOftenUntil(until);
                default:
                    return quota;
            }
        }

        private int comersUntil(int until) {
            int comers = 0;
            for (int w = 0; w < until; w++) {
                comers += Integer.bitCount(sets[w]);
            }
            return comers;
        }

        private int mostOftenUntil(int until) {
            int best = 0;
            int most = 0;
            for (int k = 0; k <= members; k++) {
                int weeks = weeksOfJust(k, until);
                if (weeks > most) {
                    best = k;
                    most = weeks;
                }
            }
            return best;
        }
    }

    /** WEEKS as they would go by from now on; the club itself stays as it is. */
    private static final class Course {
        Club club;
        int week;
        int last;
        boolean foggy;
        int draws;
        // For MEMBERS who learn alone: what coming always would have brought.
        final int[] learned = new int[MOST_MEMBERS];

        Course(Club any) {
            club = any;
        }

        void start(Club from) {
            club = from;
            week = from.week;
            last = from.lastSet();
            foggy = false;
            for (int m = 0; m < from.members; m++) {
                learned[m] = 0;
                if (from.rule[m] == LEARNS) {
                    recall(m);
                }
            }
        }

        private void recall(int m) {
            for (int w = 0; w < club.week; w++) {
                learned[m] += club.payOf(m, club.sets[w] | 1 << m);
            }
        }

        /** A WEEK goes by without fog: who came. */
        int go() {
            int set = comers();
            for (int m = 0; m < club.members; m++) {
                if (club.rule[m] == LEARNS) {
                    learned[m] += club.payOf(m, set | 1 << m);
                }
            }
            last = set;
            week++;
            return set;
        }

        /** Only just behind start, which ends the fog of a call before. */
        int comersInFog(int seed) {
            foggy = true;
            draws = seed;
            return comers();
        }

        int comers() {
            int coming = 0;
            for (int m = 0; m < club.members; m++) {
                if (comes(m, coming)) {
                    coming |= 1 << m;
                }
            }
            return coming;
        }

        private boolean comes(int m, int coming) {
            int number = club.number[m];
            switch (club.rule[m]) {
                case ALWAYS:
                    return true;
                case SAME:
                    return club.has(last, m);
                case OTHER:
                    return !club.has(last, m);
                case UNDER:
                    return Integer.bitCount(last) < number;
                case OVER:
                    return Integer.bitCount(last) > number;
                case EVERY:
                    return number > 0 && week % number == 0;
                case HATS:
                case SEES:
                    return club.comesBySeeing(m, hatsSeen(club.hatsAhead(m, coming)));
                case THINK:
                    return club.has(club.thoughts(last, number), m);
                case LEARNS:
                    return learned[m] > 0;
                default:
                    return false;
            }
        }

        private int hatsSeen(int hats) {
            if (!foggy) {
                return Integer.bitCount(hats);
            }
            int seen = 0;
            for (int m = 0; m < club.members; m++) {
                if (club.has(hats, m)) {
                    draws = 1103515245 * draws + 12345;
                    seen += (draws >>> 16) % 100 < club.fog ? 0 : 1;
                }
            }
            return seen;
        }

        /** In how many of n WEEKS AHEAD it MEETS. */
        int meetings(Club from, int n) {
            start(from);
            int meetings = 0;
            for (int i = 0; i < n; i++) {
                meetings += from.meets(go()) ? 1 : 0;
            }
            return meetings;
        }

        int payAhead(Club from, int m, int n) {
            start(from);
            int coins = 0;
            for (int i = 0; i < n; i++) {
                coins += from.payOf(m, go());
            }
            return coins;
        }
    }

    /** TURNS, told from the last one on backward. */
    private static final class Turns {
        final int[] order = new int[MOST_MEMBERS];
        // By place in the order and by how many came ahead of it: how many
        // come in the end.
        final int[][] inTheEnd = new int[MOST_MEMBERS + 1][MOST_MEMBERS + 2];

        int play(Club club) {
            for (int came = 0; came <= club.members; came++) {
                inTheEnd[club.members][came] = came;
            }
            for (int place = club.members - 1; place >= 0; place--) {
                for (int came = 0; came <= place; came++) {
                    int then = comesAt(club, place, came) ? came + 1 : came;
                    inTheEnd[place][came] = inTheEnd[place + 1][then];
                }
            }
            int coming = 0;
            int came = 0;
            for (int place = 0; place < club.members; place++) {
                if (comesAt(club, place, came)) {
                    coming |= 1 << order[place];
                    came++;
                }
            }
            return coming;
        }

        private boolean comesAt(Club club, int place, int came) {
            return club.has(club.willing, order[place])
                    && inTheEnd[place + 1][came + 1] == club.quota;
        }

        int firstOf(Club club, int coming) {
            for (int place = 0; place < club.members; place++) {
                if (club.has(coming, order[place])) {
                    return order[place];
                }
            }
            return NONE;
        }
    }

    /** TWO: all numbers one behind the other, as an odometer tells them. */
    private static final class TwoClubs {
        final int[] choice = new int[MOST_IN_TWO];
        Club club;
        int secondQuota;
        int secondDinner;
        int here;
        int there;

        TwoClubs(Club any) {
            club = any;
        }

        int find(Club first, int quota, int dinner, int k) {
            begin(first, quota, dinner);
            long numbers = power(3, first.members);
            int found = 0;
            for (int n = 0; n < numbers; n++) {
                if (isAtRest()) {
                    if (found == k) {
                        return n;
                    }
                    found++;
                }
                turnOn();
            }
            return k == NONE ? found : NONE;
        }

        private void begin(Club first, int quota, int dinner) {
            club = first;
            secondQuota = quota;
            secondDinner = dinner;
            here = 0;
            there = 0;
            for (int m = 0; m < MOST_IN_TWO; m++) {
                choice[m] = 0;
            }
        }

        private boolean isAtRest() {
            for (int m = 0; m < club.members; m++) {
                int payHere = payIn(here + (choice[m] == 1 ? 0 : 1), club.quota, club.dinner) - club.cost[m];
                int payThere = payIn(there + (choice[m] == 2 ? 0 : 1), secondQuota, secondDinner) - club.cost[m];
                int most = Math.max(0, Math.max(payHere, payThere));
                int his = choice[m] == 0 ? 0 : choice[m] == 1 ? payHere : payThere;
                if (most > his) {
                    return false;
                }
            }
            return true;
        }

        private static int payIn(int coming, int quota, int dinner) {
            return coming == quota ? dinner : 0;
        }

        private void turnOn() {
            for (int m = 0; m < club.members; m++) {
                if (choice[m] == 0) {
                    choice[m] = 1;
                    here++;
                    return;
                }
                if (choice[m] == 1) {
                    choice[m] = 2;
                    here--;
                    there++;
                    return;
                }
                choice[m] = 0;
                there--;
            }
        }
    }

    /** A TRAY; MISSING till it is laid. */
    private static final class Tray {
        boolean laid;
        int sort;
        int many;
        final long[] numbers = new long[PLACES];

        void lay(int itsSort, int places) {
            laid = true;
            sort = itsSort;
            many = places;
            for (int place = 0; place < PLACES; place++) {
                numbers[place] = 0;
            }
        }

        long put(int place, long v) {
            numbers[place] = cut(v);
            return numbers[place];
        }

        private long cut(long v) {
            switch (sort) {
                case 0:
                    return (byte) v;
                case 1:
                    return (short) v;
                case 2:
                    return (int) v;
                default:
                    return v;
            }
        }
    }

    /** The tape, and the reading of it as a text, up to its first FAULT. */
    private static final class Reader {
        static final int NO_TOKEN = 0;
        static final int WORD = 1;
        static final int NUMBER = 2;
        static final int SEMICOLON = 3;
        static final int END = 4;

        static final int BEGINS_NO_TOKEN = 1;
        static final int CANT_STAND = 2;
        static final int OUT_OF_BOUNDS = 3;
        static final int ONE_TOO_MANY = 4;

        static final int MOST_DIGITS = 3;

        final byte[] tape = new byte[MOST_BYTES];
        int length;
        int fault;
        int place = NONE;
        int end;
        int at;
        int kind;
        int start;
        Club draft;

        Reader(Club any) {
            draft = any;
        }

        /** Four bytes come on the tape; feed has looked for room. */
        void lay(int four) {
            for (int shift = 24; shift >= 0; shift -= 8) {
                if (length < MOST_BYTES) {
                    tape[length] = (byte) (four >> shift);
                    length++;
                }
            }
        }

        boolean read(int n, Club into) {
            fault = 0;
            place = NONE;
            end = n;
            at = 0;
            draft = into;
            into.clear();
            advance();
            for (int line = 0; line < MOST_BYTES && kind != END; line++) {
                if (!readLine()) {
                    return false;
                }
                into.lines++;
            }
            into.weigh();
            return true;
        }

        private boolean readLine() {
            if (isWord("member")) {
                return readMember() && takeSemicolon();
            }
            if (isWord("quota")) {
                advance();
                draft.quota = takeNumber(1, MOST_QUOTA);
                return draft.quota != NONE && takeSemicolon();
            }
            if (isWord("dinner")) {
                advance();
                draft.dinner = takeNumber(0, MOST_COINS);
                return draft.dinner != NONE && takeSemicolon();
            }
            if (isWord("fog")) {
                advance();
                draft.fog = takeNumber(0, MOST_FOG);
                return draft.fog != NONE && takeSemicolon();
            }
            return refuseMisfit();
        }

        private boolean readMember() {
            if (draft.members >= MOST_MEMBERS) {
                return refuse(ONE_TOO_MANY);
            }
            advance();
            int rule = ruleHere();
            if (rule == NONE) {
                return refuseMisfit();
            }
            advance();
            boolean hasNumber = rule >= UNDER && rule <= THINK;
            int number = hasNumber ? takeNumber(LEAST_N[rule], MOST_N[rule]) : 0;
            if (number == NONE) {
                return false;
            }
            int cost = 0;
            if (isWord("cost")) {
                advance();
                cost = takeNumber(0, MOST_COINS);
            }
            if (cost == NONE) {
                return false;
            }
            boolean umbrella = isWord("umbrella");
            if (umbrella) {
                advance();
            }
            draft.join(rule, number, cost, umbrella);
            return true;
        }

        private int ruleHere() {
            for (int rule = 0; rule < RULES; rule++) {
                if (isWord(wordOf(rule))) {
                    return rule;
                }
            }
            return NONE;
        }

        private static String wordOf(int rule) {
            switch (rule) {
                case ALWAYS:
                    return "always";
                case NEVER:
                    return "never";
                case SAME:
                    return "same";
                case OTHER:
                    return "other";
                case UNDER:
                    return "under";
                case OVER:
                    return "over";
                case EVERY:
                    return "every";
                case HATS:
                    return "hats";
                case SEES:
                    return "sees";
                case THINK:
                    return "think";
                default:
                    return "learns";
            }
        }

        private boolean takeSemicolon() {
            if (kind != SEMICOLON) {
                return refuseMisfit();
            }
            advance();
            return true;
        }

        /** The number of the TOKEN here; NONE behind a FAULT. */
        private int takeNumber(int least, int most) {
            if (kind != NUMBER) {
                refuseMisfit();
                return NONE;
            }
            int number = 0;
            for (int i = start; i < at; i++) {
                number = 10 * number + tape[i] - '0';
            }
            if (number < least || number > most) {
                refuse(OUT_OF_BOUNDS);
                return NONE;
            }
            advance();
            return number;
        }

        private boolean refuseMisfit() {
            return refuse(kind == NO_TOKEN ? BEGINS_NO_TOKEN : CANT_STAND);
        }

        private boolean refuse(int kindOfFault) {
            fault = kindOfFault;
            place = start;
            return false;
        }

        private boolean isWord(String word) {
            if (kind != WORD || at - start != word.length()) {
                return false;
            }
            for (int i = 0; i < word.length(); i++) {
                if (tape[start + i] != word.charAt(i)) {
                    return false;
                }
            }
            return true;
        }

        /** On to the next TOKEN: it goes from start to just ahead of at. */
        private void advance() {
            while (at < end && (tape[at] == ' ' || tape[at] == '\n')) {
                at++;
            }
            start = at;
            if (at >= end) {
                kind = END;
            } else if (isLetter(tape[at])) {
                kind = WORD;
                while (at < end && isLetter(tape[at])) {
                    at++;
                }
            } else if (isDigit(tape[at])) {
                while (at < end && isDigit(tape[at])) {
                    at++;
                }
                kind = at - start > MOST_DIGITS ? NO_TOKEN : NUMBER;
            } else {
                kind = tape[at] == ';' ? SEMICOLON : NO_TOKEN;
                at++;
            }
        }

        private static boolean isLetter(byte sign) {
            return sign >= 'a' && sign <= 'z';
        }

        private static boolean isDigit(byte sign) {
            return sign >= '0' && sign <= '9';
        }
    }
}
