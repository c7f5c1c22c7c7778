import java.math.BigInteger;
import java.util.ArrayList;
import java.util.Arrays;
import java.util.List;
import java.util.NoSuchElementException;
import java.util.regex.Matcher;
import java.util.regex.Pattern;

/**
 * The document once more, as literally and slowly as it can be told: nothing
 * here is taken from the program, so that the two may be held together.
 */
public final class Model {
    static final int NONE = -1;
    static final List<String> RULES = List.of("always", "never", "same", "other", "under", "over",
            "every", "hats", "sees", "think", "learns");

    static final class Mem {
        String rule;
        int n;
        int cost;
        boolean umbrella;

        Mem copy() {
            Mem m = new Mem();
            m.rule = rule;
            m.n = n;
            m.cost = cost;
            m.umbrella = umbrella;
            return m;
        }
    }

    static final class State {
        int lines = 0;
        int quota = 1;
        int dinner = 10;
        int fog = 0;
        List<Mem> members = new ArrayList<>();
        List<Integer> weeks = new ArrayList<>();

        State copy() {
            State s = new State();
            s.lines = lines;
            s.quota = quota;
            s.dinner = dinner;
            s.fog = fog;
            for (Mem m : members) {
                s.members.add(m.copy());
            }
            s.weeks.addAll(weeks);
            return s;
        }

        int size() {
            return members.size();
        }

        boolean in(int set, int m) {
            return (set / (1 << m)) % 2 == 1;
        }

        int many(int set) {
            int c = 0;
            for (int m = 0; m < 12; m++) {
                if (in(set, m)) {
                    c++;
                }
            }
            return c;
        }

        int flip(int set, int m) {
            return in(set, m) ? set - (1 << m) : set + (1 << m);
        }

        int with(int set, int m) {
            return in(set, m) ? set : set + (1 << m);
        }

        int last() {
            return weeks.isEmpty() ? 0 : weeks.get(weeks.size() - 1);
        }

        boolean meets(int set) {
            return many(set) == quota;
        }

        int pay(int m, int set) {
            if (!in(set, m)) {
                return 0;
            }
            return meets(set) ? dinner - members.get(m).cost : 0 - members.get(m).cost;
        }

        int gain(int m, int set) {
            return pay(m, flip(set, m)) - pay(m, set);
        }

        boolean rest(int set) {
            for (int m = 0; m < size(); m++) {
                if (gain(m, set) > 0) {
                    return false;
                }
            }
            return true;
        }

        boolean strong(int set) {
            if (!rest(set)) {
                return false;
            }
            for (int a = 0; a < size(); a++) {
                for (int b = 0; b < a; b++) {
                    int both = flip(flip(set, a), b);
                    if (pay(a, both) > pay(a, set) && pay(b, both) > pay(b, set)) {
                        return false;
                    }
                }
            }
            return true;
        }

        /** The SET of all THOUGHTS of a DEPTH. */
        int thoughts(int d) {
            if (d == 0) {
                return last();
            }
            int before = thoughts(d - 1);
            int set = 0;
            for (int m = 0; m < size(); m++) {
                if (pay(m, with(before, m)) > 0) {
                    set = with(set, m);
                }
            }
            return set;
        }

        int hats(int m, int coming) {
            int hats = 0;
            for (int j = 0; j < m; j++) {
                if (in(coming, j) || members.get(j).umbrella) {
                    hats++;
                }
            }
            return hats;
        }

        /** Without a seed: without fog. */
        int comers(Integer seed) {
            int[] x = {seed == null ? 0 : seed};
            int coming = 0;
            for (int m = 0; m < size(); m++) {
                if (comes(m, coming, seed != null, x)) {
                    coming = with(coming, m);
                }
            }
            return coming;
        }

        boolean comes(int m, int coming, boolean foggy, int[] x) {
            Mem who = members.get(m);
            switch (who.rule) {
                case "always":
                    return true;
                case "never":
                    return false;
                case "same":
                    return in(last(), m);
                case "other":
                    return !in(last(), m);
                case "under":
                    return many(last()) < who.n;
                case "over":
                    return many(last()) > who.n;
                case "every":
                    return weeks.size() % who.n == 0;
                case "hats":
                    return seen(m, coming, foggy, x) < who.n;
                case "sees":
                    return seen(m, coming, foggy, x) == who.n;
                case "think":
                    return in(thoughts(who.n), m);
                default:
                    long sum = 0;
                    for (int set : weeks) {
                        sum += pay(m, with(set, m));
                    }
                    return sum > 0;
            }
        }

        int seen(int m, int coming, boolean foggy, int[] x) {
            int seen = 0;
            for (int j = 0; j < m; j++) {
                boolean hat = in(coming, j) || members.get(j).umbrella;
                if (!hat) {
                    continue;
                }
                if (foggy) {
                    x[0] = (int) (1103515245L * x[0] + 12345L);
                    long draw = (x[0] & 0xffffffffL) / 65536;
                    if (draw % 100 < fog) {
                        continue;
                    }
                }
                seen++;
            }
            return seen;
        }

        List<Integer> ahead(int n) {
            State s = copy();
            List<Integer> out = new ArrayList<>();
            for (int i = 0; i < n; i++) {
                int set = s.comers(null);
                s.weeks.add(set);
                out.add(set);
            }
            return out;
        }

        int meetings(int n) {
            int c = 0;
            for (int set : ahead(n)) {
                c += meets(set) ? 1 : 0;
            }
            return c;
        }

        /** The SET in the end of TURNS, those ahead of a place having done as in a SET. */
        int turns(int[] order, int place, int set) {
            if (place == order.length) {
                return set;
            }
            int m = order[place];
            int by = turns(order, place + 1, with(set, m));
            return pay(m, by) > 0 ? by : turns(order, place + 1, set);
        }

        int all() {
            return (1 << size()) - 1;
        }
    }

    State s = new State();
    final State[] images = new State[3];
    final long[][] trays = new long[4][];
    final int[] sorts = new int[4];
    String tape = "";
    int fault = 0;
    int place = NONE;

    // ---- what is asked for

    void arg(boolean good) {
        if (!good) {
            throw new IllegalArgumentException();
        }
    }

    void such(boolean good) {
        if (!good) {
            throw new NoSuchElementException();
        }
    }

    void state(boolean good) {
        if (!good) {
            throw new IllegalStateException();
        }
    }

    void member(int m) {
        such(m >= 0 && m < s.size());
    }

    void set(int set) {
        arg(set >= 0 && set <= s.all());
    }

    long[] laid(int t) {
        such(t >= 0 && t < 4);
        state(trays[t] != null);
        return trays[t];
    }

    // ---- the club

    public int feed(int a, int b, int c, int d, int e) {
        if (tape.length() > 680) {
            return NONE;
        }
        for (int v : new int[] {a, b, c, d, e}) {
            for (int i = 3; i >= 0; i--) {
                tape += (char) ((v >> 8 * i) & 255);
            }
        }
        return tape.length();
    }

    public int club(int n) {
        arg(n >= 0 && n <= tape.length());
        String text = tape.substring(0, n);
        tape = "";
        State read = new State();
        int[] found = read(text, read);
        fault = found[0];
        place = found[1];
        if (fault != 0) {
            return -10 - fault;
        }
        s = read;
        return s.lines;
    }

    /** A machine of states over the TOKENS: the FAULT and its place. */
    static int[] read(String text, State into) {
        Matcher tokens = Pattern.compile("[a-z]+|[0-9]+|[^ \n]", Pattern.DOTALL).matcher(text);
        String await = "line";
        while (tokens.find()) {
            String t = tokens.group();
            int at = tokens.start();
            boolean word = t.matches("[a-z]+");
            boolean digits = t.matches("[0-9]+");
            if (!word && !(digits && t.length() <= 3) && !t.equals(";")) {
                return new int[] {1, at};
            }
            Mem who = into.members.isEmpty() ? null : into.members.get(into.members.size() - 1);
            if (await.equals("line")) {
                if (!List.of("quota", "dinner", "fog", "member").contains(t)) {
                    return new int[] {2, at};
                }
                if (t.equals("member") && into.members.size() == 12) {
                    return new int[] {4, at};
                }
                if (t.equals("member")) {
                    into.members.add(new Mem());
                }
                await = t.equals("member") ? "rule" : t;
            } else if (await.equals("rule")) {
                if (!RULES.contains(t)) {
                    return new int[] {2, at};
                }
                who.rule = t;
                int r = RULES.indexOf(t);
                await = r >= 4 && r <= 9 ? t : "more";
            } else if (await.equals("more") && t.equals("cost")) {
                await = "cost";
            } else if ((await.equals("more") || await.equals("costed")) && t.equals("umbrella")) {
                who.umbrella = true;
                await = ";";
            } else if (List.of("more", "costed", ";").contains(await)) {
                if (!t.equals(";")) {
                    return new int[] {2, at};
                }
                into.lines++;
                await = "line";
            } else {
                if (!digits) {
                    return new int[] {2, at};
                }
                int n = Integer.parseInt(t);
                if (!bounds(await, n)) {
                    return new int[] {3, at};
                }
                await = put(into, who, await, n);
            }
        }
        return await.equals("line") ? new int[] {0, NONE} : new int[] {2, text.length()};
    }

    static boolean bounds(String of, int n) {
        switch (of) {
            case "quota":
            case "every":
                return n >= 1 && n <= 12;
            case "dinner":
            case "cost":
                return n <= 999;
            case "fog":
                return n <= 100;
            case "think":
                return n <= 6;
            default:
                return n <= 12;
        }
    }

    static String put(State into, Mem who, String of, int n) {
        switch (of) {
            case "quota":
                into.quota = n;
                return ";";
            case "dinner":
                into.dinner = n;
                return ";";
            case "fog":
                into.fog = n;
                return ";";
            case "cost":
                who.cost = n;
                return "costed";
            default:
                who.n = n;
                return "more";
        }
    }

    public int fault(int what) {
        return what == 0 ? fault : what == 1 ? place : NONE;
    }

    public int member(int m, int what) {
        member(m);
        arg(what >= 0 && what <= 6);
        Mem who = s.members.get(m);
        int came = 0;
        int dined = 0;
        int pay = 0;
        for (int set : s.weeks) {
            came += s.in(set, m) ? 1 : 0;
            dined += s.in(set, m) && s.meets(set) ? 1 : 0;
            pay += s.pay(m, set);
        }
        return new int[] {RULES.indexOf(who.rule), who.n, who.cost, who.umbrella ? 1 : 0, came, dined, pay}[what];
    }

    public int quota(int n) {
        arg(n >= 1 && n <= 12);
        int before = s.quota;
        s.quota = n;
        return before;
    }

    // ---- weeks

    public int week(int seed) {
        state(s.weeks.size() < 60);
        int set = s.comers(seed);
        s.weeks.add(set);
        return set;
    }

    public boolean told(int set) {
        state(s.weeks.size() < 60);
        set(set);
        s.weeks.add(set);
        return s.meets(set);
    }

    public int back(int n) {
        arg(n >= 0 && n <= s.weeks.size());
        for (int i = 0; i < n; i++) {
            s.weeks.remove(s.weeks.size() - 1);
        }
        return s.weeks.size();
    }

    public int came(int week) {
        such(week >= 0 && week < s.weeks.size());
        return s.weeks.get(week);
    }

    public boolean met(int week) {
        return s.meets(came(week));
    }

    public int next() {
        return s.comers(null);
    }

    public int hats(int m) {
        member(m);
        return s.hats(m, next());
    }

    public boolean thought(int m, int d) {
        member(m);
        arg(d >= 0 && d <= 6);
        return s.in(s.thoughts(d), m);
    }

    public int settled() {
        for (int d = 0; d <= 5; d++) {
            boolean alike = true;
            for (int e = d; e <= 6; e++) {
                alike &= s.thoughts(e) == s.thoughts(6);
            }
            if (alike) {
                return d;
            }
        }
        return NONE;
    }

    public int judge(int tray, int what) {
        long[] row = laid(tray);
        arg(what == 0 || what == 1);
        List<Integer> due = s.ahead(row.length);
        for (int i = 0; i < row.length; i++) {
            if (row[i] != due.get(i)) {
                return what == 0 ? i : due.get(i);
            }
        }
        return NONE;
    }

    // ---- at rest

    public int gain(int set, int m) {
        member(m);
        set(set);
        return s.gain(m, set);
    }

    public boolean rests(int set) {
        set(set);
        return s.rest(set);
    }

    private int kth(List<Integer> of, int k) {
        return k == NONE ? of.size() : k >= 0 && k < of.size() ? of.get(k) : NONE;
    }

    private List<Integer> rests() {
        List<Integer> out = new ArrayList<>();
        for (int set = 0; set <= s.all(); set++) {
            if (s.rest(set)) {
                out.add(set);
            }
        }
        return out;
    }

    public int rest(int k) {
        return kth(rests(), k);
    }

    public boolean strong(int set) {
        set(set);
        return s.strong(set);
    }

    public int strongs(int k) {
        List<Integer> out = new ArrayList<>();
        for (int set : rests()) {
            if (s.strong(set)) {
                out.add(set);
            }
        }
        return kth(out, k);
    }

    public int inTurn() {
        int[] order = new int[s.size()];
        for (int i = 0; i < order.length; i++) {
            order[i] = i;
        }
        return s.turns(order, 0, 0);
    }

    public int turnsBy(int tray, int what) {
        long[] row = laid(tray);
        long[] sorted = row.clone();
        Arrays.sort(sorted);
        arg(row.length == s.size());
        int[] order = new int[row.length];
        for (int i = 0; i < row.length; i++) {
            arg(sorted[i] == i);
            order[i] = (int) row[i];
        }
        arg(what == 0 || what == 1);
        int set = s.turns(order, 0, 0);
        if (what == 0) {
            return set;
        }
        for (int m : order) {
            if (s.in(set, m)) {
                return m;
            }
        }
        return NONE;
    }

    private int payTwo(int[] doing, int m, int quota, int dinner) {
        if (doing[m] == 0) {
            return 0;
        }
        int alike = 0;
        for (int d : doing) {
            alike += d == doing[m] ? 1 : 0;
        }
        boolean here = doing[m] == 1;
        boolean meets = alike == (here ? s.quota : quota);
        return (meets ? here ? s.dinner : dinner : 0) - s.members.get(m).cost;
    }

    public int two(int quota, int dinner, int k) {
        arg(quota >= 1 && quota <= 12 && dinner >= 0 && dinner <= 999);
        state(s.size() <= 8);
        List<Integer> out = new ArrayList<>();
        int numbers = (int) Math.round(Math.pow(3, s.size()));
        for (int number = 0; number < numbers; number++) {
            int[] doing = new int[s.size()];
            int left = number;
            for (int m = 0; m < s.size(); m++) {
                doing[m] = left % 3;
                left /= 3;
            }
            boolean rest = true;
            for (int m = 0; m < s.size(); m++) {
                int now = payTwo(doing, m, quota, dinner);
                int was = doing[m];
                for (int other = 0; other < 3; other++) {
                    doing[m] = other;
                    rest &= payTwo(doing, m, quota, dinner) <= now;
                }
                doing[m] = was;
            }
            if (rest) {
                out.add(number);
            }
        }
        return kth(out, k);
    }

    private int payOfAll(int set) {
        int pay = 0;
        for (int m = 0; m < s.size(); m++) {
            pay += s.pay(m, set);
        }
        return pay;
    }

    public int bestRest() {
        int best = NONE;
        for (int set : rests()) {
            if (best == NONE || payOfAll(set) > payOfAll(best)) {
                best = set;
            }
        }
        return best;
    }

    public int pay(int set) {
        set(set);
        return payOfAll(set);
    }

    public int pivots(int set) {
        set(set);
        int out = 0;
        for (int m = 0; m < s.size(); m++) {
            if (s.meets(set) != s.meets(s.flip(set, m))) {
                out = s.with(out, m);
            }
        }
        return out;
    }

    public int replies(int set, int what) {
        set(set);
        arg(what == 0 || what == 1);
        int now = set;
        int did = 0;
        while (!s.rest(now)) {
            if (did == 4096) {
                return NONE;
            }
            int m = 0;
            while (s.gain(m, now) <= 0) {
                m++;
            }
            now = s.flip(now, m);
            did++;
        }
        return what == 0 ? now : did;
    }

    public int bribe(int set) {
        set(set);
        int coins = 0;
        for (int m = 0; m < s.size(); m++) {
            if (s.gain(m, set) > 0) {
                coins += s.gain(m, set);
            }
        }
        return coins;
    }

    public int leastBribe(int what) {
        arg(what == 0 || what == 1);
        int best = NONE;
        for (int set = 0; set <= s.all(); set++) {
            if (s.many(set) == s.quota && (best == NONE || bribe(set) < bribe(best))) {
                best = set;
            }
        }
        return best == NONE ? NONE : what == 0 ? bribe(best) : best;
    }

    private int costs(int set) {
        int coins = 0;
        for (int m = 0; m < s.size(); m++) {
            coins += s.in(set, m) ? s.members.get(m).cost : 0;
        }
        return coins;
    }

    public int contract(int what) {
        arg(what == 0 || what == 1);
        int best = NONE;
        for (int set = 0; set <= s.all(); set++) {
            if (s.many(set) == s.quota && (best == NONE || costs(set) < costs(best))) {
                best = set;
            }
        }
        return best == NONE ? NONE : what == 0 ? costs(best) : best;
    }

    // ---- odds

    private void chance(int a, int b) {
        arg(b >= 1 && b <= 20 && a >= 0 && a <= b);
    }

    /** Ways in which just k come, one MEMBER after the other. */
    private static BigInteger ways(long[] numbers, int b, int k) {
        if (k < 0 || k > numbers.length) {
            return BigInteger.ZERO;
        }
        if (numbers.length == 0) {
            return BigInteger.ONE;
        }
        long[] rest = Arrays.copyOf(numbers, numbers.length - 1);
        long last = numbers[numbers.length - 1];
        return ways(rest, b, k - 1).multiply(BigInteger.valueOf(last))
                .add(ways(rest, b, k).multiply(BigInteger.valueOf(b - last)));
    }

    private static long[] alike(int many, int a) {
        long[] out = new long[many];
        Arrays.fill(out, a);
        return out;
    }

    public long odds(int a, int b, int k) {
        chance(a, b);
        return ways(alike(s.size(), a), b, k).longValueExact();
    }

    public int bestOdds(int b) {
        chance(0, b);
        int best = 0;
        for (int a = 0; a <= b; a++) {
            if (odds(a, b, s.quota) > odds(best, b, s.quota)) {
                best = a;
            }
        }
        return best;
    }

    public long chances(int tray, int b, int k) {
        long[] row = laid(tray);
        chance(0, b);
        arg(row.length == s.size());
        for (long v : row) {
            arg(v >= 0 && v <= b);
        }
        return ways(row, b, k).longValueExact();
    }

    public long hope(int m, int a, int b, int what) {
        member(m);
        chance(a, b);
        arg(what == 0 || what == 1);
        int others = s.size() - 1;
        BigInteger all = BigInteger.valueOf(b).pow(others);
        BigInteger meeting = ways(alike(others, a), b, s.quota - 1);
        BigInteger coins = meeting.multiply(BigInteger.valueOf(s.dinner))
                .subtract(all.multiply(BigInteger.valueOf(s.members.get(m).cost)));
        BigInteger rest = coins.mod(all);
        return what == 1 ? rest.longValueExact() : coins.subtract(rest).divide(all).longValueExact();
    }

    // ---- weeks ahead

    public int ahead(int n, int what) {
        arg(n >= 1 && n <= 60);
        arg(what >= 0 && what <= 2 || what >= 100 && what <= 99 + n);
        List<Integer> sets = s.ahead(n);
        if (what >= 100) {
            return sets.get(what - 100);
        }
        if (what == 0) {
            return s.meetings(n);
        }
        int out = 0;
        for (int m = 0; m < s.size(); m++) {
            boolean all = true;
            for (int set : sets) {
                all &= s.in(set, m) == (what == 2);
            }
            out = all ? s.with(out, m) : out;
        }
        return out;
    }

    public int ring(int what) {
        arg(what == 0 || what == 1);
        int modulo = 1;
        boolean divides = false;
        while (!divides) {
            divides = true;
            for (Mem m : s.members) {
                if (m.rule.equals("learns")) {
                    return NONE;
                }
                divides &= !m.rule.equals("every") || modulo % m.n == 0;
            }
            modulo += divides ? 0 : 1;
        }
        List<String> seen = new ArrayList<>();
        State t = s.copy();
        for (int week = 0; week <= 400; week++) {
            String now = t.last() + "/" + t.weeks.size() % modulo;
            int at = seen.indexOf(now);
            if (at >= 0) {
                return what == 0 ? week - at : at;
            }
            seen.add(now);
            t.weeks.add(t.comers(null));
        }
        return NONE;
    }

    public int worth(int m, int n) {
        member(m);
        arg(n >= 1 && n <= 60);
        State t = s.copy();
        t.members.get(m).rule = "never";
        t.members.get(m).umbrella = false;
        return s.meetings(n) - t.meetings(n);
    }

    public int bestQuota(int n) {
        arg(n >= 1 && n <= 60);
        int best = 0;
        int most = -1;
        for (int q = 1; q <= 12; q++) {
            State t = s.copy();
            t.quota = q;
            if (t.meetings(n) > most) {
                best = q;
                most = t.meetings(n);
            }
        }
        return best;
    }

    public int bestRule(int m, int n, int what) {
        member(m);
        arg(n >= 1 && n <= 30 && what >= 0 && what <= 2);
        int[] best = null;
        for (int r = 0; r <= 10; r++) {
            for (int number = 0; number <= 12; number++) {
                boolean has = r >= 4 && r <= 9;
                if (has ? !bounds(RULES.get(r), number) : number != 0) {
                    continue;
                }
                State t = s.copy();
                t.members.get(m).rule = RULES.get(r);
                t.members.get(m).n = number;
                int pay = 0;
                for (int set : t.ahead(n)) {
                    pay += t.pay(m, set);
                }
                if (best == null || pay > best[2]) {
                    best = new int[] {r, number, pay};
                }
            }
        }
        return best[what];
    }

    // ---- what was

    public int streak(int what) {
        arg(what == 0 || what == 1);
        int best = 0;
        int first = NONE;
        for (int from = 0; from < s.weeks.size(); from++) {
            int to = from;
            while (to < s.weeks.size() && s.meets(s.weeks.get(to))) {
                to++;
            }
            if (to - from > best) {
                best = to - from;
                first = from;
            }
        }
        return what == 0 ? best : first;
    }

    public int tally(int k) {
        int c = 0;
        for (int set : s.weeks) {
            c += s.many(set) == k ? 1 : 0;
        }
        return c;
    }

    public int together(int a, int b) {
        member(a);
        member(b);
        int c = 0;
        for (int set : s.weeks) {
            c += s.in(set, a) && s.in(set, b) ? 1 : 0;
        }
        return c;
    }

    public int friends() {
        int best = NONE;
        int most = 0;
        for (int a = 0; a < s.size(); a++) {
            for (int b = a + 1; b < s.size(); b++) {
                if (together(a, b) > most) {
                    most = together(a, b);
                    best = 100 * a + b;
                }
            }
        }
        return best;
    }

    public int doubts(int m, int week) {
        member(m);
        such(week >= 0 && week < s.weeks.size());
        Mem who = s.members.get(m);
        if (!who.rule.equals("hats") && !who.rule.equals("sees")) {
            return NONE;
        }
        int set = s.weeks.get(week);
        int hats = s.hats(m, set);
        int ways = 0;
        for (int seen = 0; seen < 1 << hats; seen++) {
            int many = s.many(seen);
            boolean would = who.rule.equals("hats") ? many < who.n : many == who.n;
            ways += would == s.in(set, m) ? 1 : 0;
        }
        return ways;
    }

    // ---- cooks

    private int guess(int c, int week) {
        List<Integer> counts = new ArrayList<>();
        int sum = 0;
        for (int w = 0; w < week; w++) {
            counts.add(s.many(s.weeks.get(w)));
            sum += counts.get(w);
        }
        if (c == 0) {
            return counts.get(week - 1);
        }
        if (c == 1) {
            return sum / week;
        }
        if (c == 3) {
            return s.quota;
        }
        int best = 0;
        for (int k = 0; k <= 12; k++) {
            if (java.util.Collections.frequency(counts, k) > java.util.Collections.frequency(counts, best)) {
                best = k;
            }
        }
        return best;
    }

    public int cook(int c) {
        arg(c >= 0 && c <= 3);
        int score = 0;
        for (int w = 1; w < s.weeks.size(); w++) {
            score += Math.abs(guess(c, w) - s.many(s.weeks.get(w)));
        }
        return score;
    }

    public int guess(int c) {
        arg(c >= 0 && c <= 3);
        return s.weeks.isEmpty() ? NONE : guess(c, s.weeks.size());
    }

    // ---- trays, images

    public void tray(int tray, int sort, int many) {
        such(tray >= 0 && tray < 4);
        arg(sort >= 0 && sort < 4 && many >= 0 && many <= 60);
        trays[tray] = new long[many];
        sorts[tray] = sort;
    }

    private long put(int tray, int place, long v) {
        int bits = 8 << sorts[tray];
        trays[tray][place] = v << 64 - bits >> 64 - bits;
        return trays[tray][place];
    }

    public long write(int tray, int place, long v) {
        long[] row = laid(tray);
        if (place < 0 || place >= row.length) {
            throw new IndexOutOfBoundsException();
        }
        return put(tray, place, v);
    }

    public int pour(int tray) {
        long[] row = laid(tray);
        int i = 0;
        while (i < row.length && i < s.weeks.size()) {
            put(tray, i, s.weeks.get(i));
            i++;
        }
        return i;
    }

    public void image(int i) {
        such(i >= 0 && i < 3);
        images[i] = s.copy();
    }

    public void restore(int i) {
        such(i >= 0 && i < 3);
        state(images[i] != null);
        s = images[i].copy();
    }

    public int count(int what) {
        int met = 0;
        for (int set : s.weeks) {
            met += s.meets(set) ? 1 : 0;
        }
        int[] all = {s.lines, s.quota, s.dinner, s.fog, s.size(), s.weeks.size(), met, tape.length()};
        return what >= 0 && what < 8 ? all[what] : NONE;
    }
}
