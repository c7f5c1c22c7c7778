import java.lang.reflect.InvocationTargetException;
import java.lang.reflect.Method;
import java.util.ArrayList;
import java.util.Arrays;
import java.util.Comparator;
import java.util.List;
import java.util.Random;

/** Random runs of all calls on the program and on the model: like answers, like throws. */
public final class AgainstModelTest {
    private static final int RUNS = 3000;
    private static final int CALLS = 150;
    private static int wrong = 0;
    private static final Random dice = new Random(20261118L);
    private static final List<String> MACHINE = List.of("ArrayIndexOutOfBoundsException", "NullPointerException",
            "ArithmeticException", "ClassCastException", "NegativeArraySizeException", "ArrayStoreException",
            "StringIndexOutOfBoundsException");

    public static void main(String[] args) throws Exception {
        List<Method> calls = new ArrayList<>();
        for (Method m : NobodysTuesday.class.getDeclaredMethods()) {
            if (java.lang.reflect.Modifier.isPublic(m.getModifiers())) {
                calls.add(m);
            }
        }
        calls.sort(Comparator.comparing(Method::getName));
        int[] times = new int[calls.size()];
        int[] thrown = new int[calls.size()];
        for (int run = 0; run < RUNS && wrong < 20; run++) {
            oneRun(run, calls, times, thrown);
        }
        for (int i = 0; i < times.length; i++) {
            if (times[i] - thrown[i] < 200) {
                wrong++;
                System.out.println("too seldom answered: " + calls.get(i).getName());
            }
        }
        System.out.println(wrong == 0 ? "program and model agree" : wrong + " differ");
        if (wrong != 0) {
            System.exit(1);
        }
    }

    private static void oneRun(int run, List<Method> calls, int[] times, int[] thrown) throws Exception {
        NobodysTuesday x = new NobodysTuesday();
        Model y = new Model();
        List<String> told = new ArrayList<>();
        int made = 0;
        int busy = dice.nextInt(4) == 0 ? 20 : dice.nextInt(5);
        while (made < CALLS) {
            int at = dice.nextInt(calls.size());
            for (int again = 0; again < busy && !isWeek(calls.get(at)); again++) {
                at = dice.nextInt(calls.size());
            }
            Method call = calls.get(at);
            List<Object[]> series = new ArrayList<>();
            if (made == 0 || call.getName().equals("club") && dice.nextInt(3) != 0) {
                made += feedText(x, y, told);
                continue;
            }
            if (call.getName().equals("write") && dice.nextInt(2) == 0) {
                series.addAll(fillings(x, y));
            } else {
                series.add(arguments(call, y));
            }
            for (Object[] arguments : series) {
                String want = answer(y, call, arguments);
                String got = answer(x, call, arguments);
                told.add(call.getName() + Arrays.toString(arguments) + " -> " + got);
                made++;
                times[at]++;
                thrown[at] += got.startsWith("throws") ? 1 : 0;
                if (!got.equals(want) || MACHINE.contains(got.substring(got.indexOf('.') + 1))) {
                    wrong++;
                    System.out.println("run " + run + ": due is " + want + " in the end of " + told);
                    return;
                }
            }
        }
    }

    private static boolean isWeek(Method call) {
        return call.getName().equals("week") || call.getName().equals("told");
    }

    private static String answer(Object on, Method call, Object[] arguments) throws Exception {
        Method its = on.getClass().getMethod(call.getName(), call.getParameterTypes());
        try {
            return String.valueOf(its.invoke(on, arguments));
        } catch (InvocationTargetException e) {
            return "throws." + e.getCause().getClass().getSimpleName();
        }
    }

    private static int feedText(NobodysTuesday x, Model y, List<String> told) {
        String text = text();
        int feeds = 0;
        x.club(0);
        y.club(0);
        for (int at = 0; at < text.length(); at += 20) {
            int[] v = new int[5];
            for (int i = 0; i < 20; i++) {
                int sign = at + i < text.length() ? text.charAt(at + i) : 32;
                v[i / 4] = v[i / 4] << 8 | sign;
            }
            x.feed(v[0], v[1], v[2], v[3], v[4]);
            y.feed(v[0], v[1], v[2], v[3], v[4]);
            feeds++;
        }
        int n = Math.min(text.length(), 700);
        long got = x.club(n);
        long want = y.club(n);
        told.add("text \"" + text + "\" -> " + got);
        if (got != want || x.fault(0) != y.fault(0) || x.fault(1) != y.fault(1)) {
            wrong++;
            System.out.println("club \"" + text + "\" -> " + got + " " + x.fault(0) + " " + x.fault(1)
                    + ", due is " + want + " " + y.fault(0) + " " + y.fault(1));
        }
        return feeds + 4;
    }

    private static String text() {
        StringBuilder out = new StringBuilder();
        int members = dice.nextInt(10) == 0 ? dice.nextInt(14) : dice.nextInt(9);
        boolean cheap = dice.nextBoolean();
        if (dice.nextInt(8) != 0) {
            out.append("quota ").append(1 + dice.nextInt(Math.min(12, members + 2))).append(";");
        }
        for (int i = 0; i < members; i++) {
            out.append(blanks()).append("member ").append(rule());
            if (dice.nextInt(4) != 0) {
                out.append(" cost ").append(dice.nextInt(cheap ? 12 : 60));
            }
            if (dice.nextInt(5) == 0) {
                out.append(" umbrella");
            }
            out.append(blanks()).append(";");
        }
        if (dice.nextInt(4) != 0) {
            out.append("dinner ").append(dice.nextInt(cheap ? 15 : 60)).append(";");
        }
        if (dice.nextInt(3) != 0) {
            out.append("fog ").append(dice.nextInt(101)).append(";");
        }
        if (dice.nextInt(6) == 0) {
            out.append("quota 2;");
        }
        return dice.nextInt(5) == 0 ? spoilt(out) : out.toString();
    }

    private static String rule() {
        int r = dice.nextInt(11);
        String word = Model.RULES.get(r);
        int n = dice.nextInt(r == 9 ? 7 : dice.nextBoolean() ? 4 : 13);
        return r >= 4 && r <= 9 ? word + " " + (r == 6 ? Math.max(1, n) : n) : word;
    }

    private static String blanks() {
        return List.of("", " ", "\n", " \n ").get(dice.nextInt(4));
    }

    private static String spoilt(StringBuilder text) {
        if (text.length() == 0) {
            return dice.nextBoolean() ? "quota" : ";";
        }
        int at = dice.nextInt(text.length());
        switch (dice.nextInt(7)) {
            case 0:
                text.setLength(at);
                break;
            case 1:
                text.deleteCharAt(at);
                break;
            case 2:
                text.setCharAt(at, (char) dice.nextInt(256));
                break;
            case 3:
                text.insert(at, dice.nextInt(2000));
                break;
            case 4:
                text.insert(at, " ");
                break;
            case 5:
                text.append("member never;".repeat(dice.nextInt(14)));
                break;
            default:
                text.insert(at, List.of("cost", "umbrella", ";", "member", "always", "1000", "999", "13", "0")
                        .get(dice.nextInt(9)));
        }
        return text.toString();
    }

    /** A TRAY that a call can use: an order, chances, or WEEKS AHEAD with maybe one wrong. */
    private static List<Object[]> fillings(NobodysTuesday x, Model y) {
        List<Object[]> out = new ArrayList<>();
        int tray = dice.nextInt(4);
        int kind = dice.nextInt(3);
        int sort = dice.nextInt(4);
        int many = kind == 2 ? dice.nextInt(8) : y.s.size();
        List<Integer> order = new ArrayList<>();
        for (int i = 0; i < many; i++) {
            order.add(i);
        }
        java.util.Collections.shuffle(order, dice);
        List<Integer> ahead = y.s.ahead(many);
        for (int i = 0; i < many; i++) {
            long v = kind == 0 ? order.get(i) : kind == 1 ? dice.nextInt(5) : ahead.get(i);
            if (dice.nextInt(25) == 0) {
                v += 1;
            }
            out.add(new Object[] {tray, i, v});
        }
        x.tray(tray, sort, many);
        y.tray(tray, sort, many);
        return out;
    }

    private static Object[] arguments(Method call, Model y) {
        Class<?>[] types = call.getParameterTypes();
        Object[] out = new Object[types.length];
        for (int i = 0; i < types.length; i++) {
            out[i] = types[i] == long.class ? (Object) (dice.nextInt(3) == 0 ? dice.nextLong() : dice.nextInt(20) - 2L)
                    : (Object) argument(call.getName(), i, out, y);
        }
        return out;
    }

    private static int argument(String call, int i, Object[] before, Model y) {
        if (dice.nextInt(60) == 0) {
            return dice.nextBoolean() ? dice.nextInt() : List.of(Integer.MIN_VALUE, -1, Integer.MAX_VALUE, 60, 61).get(dice.nextInt(5));
        }
        int n = y.s.size();
        int week = y.s.weeks.size();
        switch (call + i) {
            case "feed0": case "feed1": case "feed2": case "feed3": case "feed4": case "week0":
                return dice.nextInt();
            case "club0":
                return dice.nextInt(4) == 0 ? dice.nextInt(y.tape.length() + 2) : y.tape.length() + 1;
            case "member0": case "hats0": case "thought0": case "hope0": case "worth0": case "bestRule0":
            case "together0": case "together1": case "doubts0": case "gain1":
                return near(0, n - 1);
            case "gain0": case "rests0": case "strong0": case "pay0": case "pivots0": case "replies0":
            case "bribe0": case "told0":
                return dice.nextInt((1 << n) + (dice.nextInt(10) == 0 ? 1 : 0));
            case "rest0": case "strongs0": case "two2":
                return dice.nextInt(dice.nextBoolean() ? 4 : 40) - 2;
            case "came0": case "met0": case "doubts1":
                return near(0, week - 1);
            case "back0":
                return near(0, dice.nextInt(3) == 0 ? week : 1);
            case "quota0": case "two0":
                return near(1, 12);
            case "two1":
                return near(0, dice.nextBoolean() ? 20 : 999);
            case "odds1": case "bestOdds0": case "chances1": case "hope2":
                return near(1, 20);
            case "odds0":
                return near(0, 20);
            case "hope1":
                return near(0, 6);
            case "odds2": case "chances2": case "tally0":
                return near(0, n);
            case "ahead0": case "worth1": case "bestQuota0":
                return near(1, dice.nextBoolean() ? 10 : 60);
            case "ahead1":
                return dice.nextBoolean() ? near(0, 2) : 100 + near(0, (Integer) before[0] - 1);
            case "bestRule1":
                return near(1, dice.nextBoolean() ? 5 : 30);
            case "bestRule2":
                return near(0, 2);
            case "thought1": case "member1":
                return near(0, 6);
            case "cook0": case "guess0": case "tray0": case "tray1": case "write0": case "pour0": case "judge0":
            case "turnsBy0": case "chances0":
                return near(0, 3);
            case "tray2":
                return dice.nextInt(3) == 0 ? near(0, 60) : n;
            case "write1":
                return near(0, n - 1);
            case "image0": case "restore0":
                return near(0, 2);
            case "count0":
                return near(0, 7);
            case "hope3": case "judge1": case "turnsBy1": case "replies1": case "leastBribe0": case "contract0":
            case "ring0": case "streak0": case "fault0":
                return near(0, 1);
            default:
                throw new IllegalStateException(call + i);
        }
    }

    /** Mostly within the bounds, sometimes just beyond. */
    private static int near(int least, int most) {
        int roll = dice.nextInt(24);
        if (roll == 0) {
            return least - 1;
        }
        if (roll == 1 || most < least) {
            return most + 1;
        }
        return roll == 2 ? most : roll == 3 ? least : least + (int) (dice.nextDouble() * ((double) most - least + 1));
    }
}
