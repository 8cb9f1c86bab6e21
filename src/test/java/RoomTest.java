import com.sun.management.ThreadMXBean;
import java.lang.management.ManagementFactory;
import java.lang.reflect.Array;
import java.lang.reflect.Field;
import java.lang.reflect.Modifier;
import java.util.ArrayDeque;
import java.util.Collections;
import java.util.Deque;
import java.util.IdentityHashMap;
import java.util.Set;

/** The room that a bus takes: what a new one is made of, and that its calls make nothing more. */
public final class RoomTest {
    /** The room of one run, of which a test may fill much with buses. */
    private static final int ROOM_OBJECTS = 600000, ROOM_CELLS = 7300000, BUSES = 512;
    private static final int CALLS = 512;
    /** Bytes that the meter itself may make: fewer than one small object for each time that a method is called. */
    private static final int SLACK = 256;
    private static final String TEXT = "class a;class b short;class c rich;class d owing;class e;"
        + "asker p credits 12;asker q credits 0 weight 9;asker r credits 999;turn 1;round 2;veto 1;line 99;"
        + "ask p a 3;ask q b 2;ask r c 1;ask p d 20;ask q e 20;ask r a 20;";

    private static int objects;
    private static long cells;

    public static void main(String[] args) throws Exception {
        newBusIsSmall();
        // The first round loads what the machine itself needs.
        busyCalls();
        parses();
        Check.is("bytes made by " + CALLS + " calls", busyCalls() <= SLACK, true);
        Check.is("bytes made by many texts", parses() <= SLACK, true);
        Check.end();
    }

    private static void newBusIsSmall() throws Exception {
        measure(new BallotBus());
        Check.is(BUSES + " buses with " + objects + " objects each are in the room",
            objects * BUSES <= ROOM_OBJECTS, true);
        Check.is(BUSES + " buses with " + cells + " cells each are in the room",
            cells * BUSES <= ROOM_CELLS, true);
    }

    /** Counts the objects that can be reached, with their fields and elements. */
    private static void measure(Object first) throws Exception {
        Set<Object> seen = Collections.newSetFromMap(new IdentityHashMap<>());
        Deque<Object> open = new ArrayDeque<>();
        objects = 0;
        cells = 0;
        open.add(first);
        seen.add(first);
        while (!open.isEmpty()) {
            Object each = open.remove();
            objects++;
            if (each.getClass().isArray()) {
                int length = Array.getLength(each);
                cells += length;
                for (int index = 0; index < length && !each.getClass().getComponentType().isPrimitive(); index++) {
                    reach(Array.get(each, index), seen, open);
                }
            } else {
                fields(each, seen, open);
            }
        }
    }

    private static void fields(Object owner, Set<Object> seen, Deque<Object> open) throws Exception {
        for (Field field : owner.getClass().getDeclaredFields()) {
            if (!Modifier.isStatic(field.getModifiers())) {
                cells++;
                if (!field.getType().isPrimitive()) {
                    field.setAccessible(true);
                    reach(field.get(owner), seen, open);
                }
            }
        }
    }

    private static void reach(Object value, Set<Object> seen, Deque<Object> open) {
        if (value != null && seen.add(value)) {
            open.add(value);
        }
    }

    /** The bytes that the calls of one bus make, the dear ones and those that keep states among them. */
    private static long busyCalls() {
        ThreadMXBean meter = (ThreadMXBean) ManagementFactory.getThreadMXBean();
        BallotBus bus = Check.bus(TEXT);
        int made = 2 * ((TEXT.length() + 19) / 20) + 4;
        long sum = 0;
        long before = meter.getCurrentThreadAllocatedBytes();
        for (int call = made; call + 24 <= CALLS; call += 24) {
            sum += changes(bus) + looks(bus);
        }
        long bytes = meter.getCurrentThreadAllocatedBytes() - before;
        Check.is("the calls were made", sum != 0, true);
        return bytes;
    }

    /** The bytes that texts make, with and without an error. */
    private static long parses() {
        ThreadMXBean meter = (ThreadMXBean) ManagementFactory.getThreadMXBean();
        BallotBus bus = new BallotBus();
        long sum = 0;
        long before = meter.getCurrentThreadAllocatedBytes();
        for (int call = 0; call + 6 <= CALLS; call += 6) {
            // "class a;asker b credits 1;", then the same text broken off behind "cred".
            bus.feed(0x636c6173, 0x7320613b, 0x61736b65, 0x72206220, 0x63726564);
            bus.feed(0x69747320, 0x313b0a0a, 0x0a0a0a0a, 0x0a0a0a0a, 0x0a0a0a0a);
            sum += bus.parse();
            bus.feed(0x636c6173, 0x7320613b, 0x61736b65, 0x72206220, 0x63726564);
            sum += bus.parse() + bus.errorCode();
        }
        long bytes = meter.getCurrentThreadAllocatedBytes() - before;
        Check.is("each pair of texts answered 1, and NONE with the code 1", sum, CALLS / 6);
        return bytes;
    }

    private static int changes(BallotBus bus) {
        int serial = bus.ask(0, 1, 20);
        return serial + bus.cast(43210) + bus.veto(1, 2) + bus.cancel(serial) + bus.run(2) + bus.payBack(0)
            + bus.setTally(2) + bus.setManner(0, 3) + bus.undo() + bus.saveState() + bus.restoreState();
    }

    private static int looks(BallotBus bus) {
        return bus.bestBallot(40) + bus.bestVeto(0, 40) + bus.bestTally(40) + bus.answersIn(500, -1)
            + bus.silentIn(1) + bus.emptyIn() + bus.middle(0) + bus.printOrder() + bus.differences(0, 2)
            + bus.champion() + bus.feed(1, 2, 3, 4, 5) + bus.find(true) + bus.parse();
    }
}
