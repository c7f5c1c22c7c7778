import java.lang.management.ManagementFactory;
import java.lang.reflect.Array;
import java.lang.reflect.Field;
import java.lang.reflect.Modifier;
import java.util.IdentityHashMap;
import java.util.Map;
import java.util.function.Consumer;

/**
 * All calls of a run live in one room of some 600,000 objects and arrays, 7.3
 * million fields and elements: an object takes little of it, and no call that
 * answers takes any more.
 */
public final class RoomTest {
    private static final int CALLS = 512;
    private static final int MOST_OBJECTS = 100;
    private static final int MOST_ELEMENTS = 5_000;
    private static final int MOST_BYTES = 4_096;
    private static int wrong = 0;
    private static long answers = 0;

    public static void main(String[] args) throws IllegalAccessException {
        size();
        if (ManagementFactory.getThreadMXBean() instanceof com.sun.management.ThreadMXBean) {
            calls();
        }
        System.out.println(wrong == 0 ? "there is room" : "there is no room, " + wrong + " times");
        if (wrong != 0) {
            System.exit(1);
        }
    }

    private static void wrong(String what) {
        wrong++;
        System.out.println(what);
    }

    // ---- an object and all that it holds

    private static void size() throws IllegalAccessException {
        Map<Object, Object> seen = new IdentityHashMap<>();
        long elements = count(new NobodysTuesday(), seen);
        System.out.println("an object: " + seen.size() + " objects and arrays, " + elements + " fields and elements");
        if (seen.size() > MOST_OBJECTS || elements > MOST_ELEMENTS) {
            wrong("that is more than it may take up");
        }
    }

    private static long count(Object o, Map<Object, Object> seen) throws IllegalAccessException {
        if (o == null || seen.put(o, o) != null) {
            return 0;
        }
        if (o.getClass().isArray()) {
            long elements = Array.getLength(o);
            boolean ofObjects = !o.getClass().getComponentType().isPrimitive();
            for (int i = 0; ofObjects && i < Array.getLength(o); i++) {
                elements += count(Array.get(o, i), seen);
            }
            return elements;
        }
        long fields = 0;
        for (Field f : o.getClass().getDeclaredFields()) {
            if (!Modifier.isStatic(f.getModifiers())) {
                f.setAccessible(true);
                fields += 1 + (f.getType().isPrimitive() ? 0 : count(f.get(o), seen));
            }
        }
        return fields;
    }

    // ---- calls

    private static void calls() {
        String text = "quota 4;dinner 50;fog 30;" + "member learns cost 3;member hats 3 cost 1 umbrella;member sees 2;"
                + "member think 6 cost 2;".repeat(5);
        NobodysTuesday x = Rows.club(text);
        Rows.fill(x, 0, 3, 7, 6, 5, 4, 3, 2, 1, 0);
        x.image(0);
        for (int i = 0; i < 60; i++) {
            x.told(i * 37 % 256);
        }
        x.image(1);
        costs("feed, club", x, y -> {
            // "quota 1;member other" has a FAULT at its end, "fog 1;fog 1;fog 1;  " has none.
            answers += y.feed(0x71756f74, 0x6120313b, 0x6d656d62, 0x6572206f, 0x74686572) + y.club(20) + y.fault(1);
            answers += y.feed(0x666f6720, 0x313b666f, 0x6720313b, 0x666f6720, 0x313b2020) + y.club(20);
            y.restore(1);
        });
        costs("member, quota", x, y -> answers += y.member(2, 6) + y.quota(4));
        costs("week", x, y -> answers += y.back(1) + y.week(7) + (y.met(59) ? 1 : 0) + y.came(59));
        costs("told", x, y -> answers += y.back(1) + (y.told(5) ? 1 : 0));
        costs("next", x, y -> answers += y.next() + y.hats(7) + y.settled() + (y.thought(3, 6) ? 1 : 0) + y.judge(0, 0));
        costs("rest", x, y -> answers += y.rest(NobodysTuesday.NONE) + (y.rests(255) ? 1 : 0) + y.bestRest());
        costs("strongs", x, y -> answers += y.strongs(NobodysTuesday.NONE) + (y.strong(0) ? 1 : 0));
        costs("turns", x, y -> answers += y.inTurn() + y.turnsBy(0, 1));
        costs("two", x, y -> answers += y.two(3, 40, NobodysTuesday.NONE));
        costs("of a set", x, y -> answers += y.gain(7, 2) + y.pay(7) + y.pivots(7) + y.replies(255, 1) + y.bribe(15));
        costs("leastBribe, contract", x, y -> answers += y.leastBribe(1) + y.contract(1));
        costs("odds", x, y -> answers += y.odds(1, 20, 4) + y.bestOdds(20) + y.chances(0, 20, 3) + y.hope(1, 2, 3, 0));
        costs("ahead, ring", x, y -> answers += y.ahead(60, 1) + y.ring(0) + y.worth(2, 60) + y.bestQuota(60));
        costs("bestRule", x, y -> answers += y.bestRule(3, 30, 0));
        costs("what was", x, y -> answers += y.streak(1) + y.tally(3) + y.together(1, 2) + y.friends() + y.doubts(1, 5));
        costs("cooks", x, y -> answers += y.cook(2) + y.guess(1));
        costs("trays", x, y -> {
            y.tray(1, 0, 60);
            answers += y.write(1, 0, 300) + y.pour(1) + y.count(6);
        });
        costs("images", x, y -> {
            y.image(2);
            y.restore(1);
        });
    }

    /** The first turn is left out: the machine makes its own things in it. */
    private static void costs(String what, NobodysTuesday x, Consumer<NobodysTuesday> deed) {
        com.sun.management.ThreadMXBean meter = (com.sun.management.ThreadMXBean) ManagementFactory.getThreadMXBean();
        long thread = Thread.currentThread().getId();
        deed.accept(x);
        long before = meter.getThreadAllocatedBytes(thread);
        for (int i = 0; i < CALLS; i++) {
            deed.accept(x);
        }
        long bytes = meter.getThreadAllocatedBytes(thread) - before;
        if (bytes > MOST_BYTES) {
            wrong(what + ": " + CALLS + " turns took " + bytes + " bytes");
        }
    }
}
