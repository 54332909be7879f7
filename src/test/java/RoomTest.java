import java.lang.management.ManagementFactory;
import java.lang.reflect.Array;
import java.lang.reflect.Field;
import java.lang.reflect.Modifier;
import java.util.IdentityHashMap;
import java.util.Map;

/**
 * What an object takes of the one room in which all calls of a run live: little when it is made, and nothing more
 * by any of its 512 calls, kept or passing.
 */
public final class RoomTest {
    private static final int CALLS = 512, KINDS_OF_CALL = 38;
    private static final int MOST_OBJECTS = 200, MOST_ITEMS = 2000;
    // Some bytes for the looking itself: one object made by each call of a kind takes more over a run.
    private static final long LOOKING = 64;
    private static final Dues DUES = new Dues();
    private static final String CANAL = "60.60.60.60.60.60.60.60.60.60.60.60;p1,l2,d3,s4,c5,p6;20:012345,6:0,5:45,1:1,7:2";
    private static final String SMALL = "7;p1;9:0";
    private static int sum = 0;

    public static void main(String[] args) throws Exception {
        passing();
        made();
        kept();
        DUES.end();
    }

    private static void made() throws Exception {
        Room room = new Room(new GossipBoat());
        DUES.holds("objects of a new boat: " + room.seen.size(), room.seen.size() <= MOST_OBJECTS);
        DUES.holds("fields and elements of a new boat: " + room.items, room.items <= MOST_ITEMS);
    }

    private static void kept() throws Exception {
        GossipBoat boat = new GossipBoat();
        Room was = new Room(boat);
        run(boat, CANAL, CALLS);
        Room is = new Room(boat);
        DUES.due("objects behind a run", is.seen.size(), was.seen.size());
        DUES.due("fields and elements behind a run", is.items, was.items);
        DUES.holds("the same objects", is.seen.keySet().containsAll(was.seen.keySet()));
    }

    private static void passing() {
        var threads = ManagementFactory.getThreadMXBean();
        if (!(threads instanceof com.sun.management.ThreadMXBean) || !((com.sun.management.ThreadMXBean) threads).isThreadAllocatedMemorySupported()) {
            System.out.println("this machine does not tell what a thread makes: not looked at");
            return;
        }
        com.sun.management.ThreadMXBean told = (com.sun.management.ThreadMXBean) threads;
        long self = Thread.currentThread().getId();
        told.getThreadAllocatedBytes(self);
        // Each call once on a small canal, so that what the machine makes to find a method is not counted; no more,
        // as it may leave out what a call makes once it has compiled it.
        run(new GossipBoat(), SMALL, SMALL.length() + KINDS_OF_CALL);
        GossipBoat boat = new GossipBoat();
        long from = told.getThreadAllocatedBytes(self);
        run(boat, CANAL, CALLS);
        long bytes = told.getThreadAllocatedBytes(self) - from;
        DUES.holds("nothing is made by the calls of a run, but " + bytes + " bytes were", bytes <= LOOKING);
    }

    /** So many calls: a canal as a text, then each kind of call in turn. */
    private static void run(GossipBoat x, String text, int calls) {
        int made = 0;
        for (int k = 0; k < text.length(); k++, made++) {
            sum += x.type(text.charAt(k));
        }
        for (int k = 0; made < calls; k = (k + 1) % KINDS_OF_CALL, made++) {
            sum += k < 16 ? deed(x, k) : k < 32 ? foretold(x, k) : sheet(x, k);
        }
    }

    private static int deed(GossipBoat x, int k) {
        switch (k) {
            case 0: return x.canal();
            case 1: return x.cell(7);
            case 2: return x.person(3, 3);
            case 3: return x.saying(9, 1);
            case 4: return x.ice(3);
            case 5: return x.of(3, 2);
            case 6: return x.at(2, 3);
            case 7: return x.rocks(3, 1);
            case 8: return x.frost(3);
            case 9: return x.count(6);
            case 10: return x.say(1);
            case 11: return x.thaw(5, 2);
            case 12: return x.mind(2, 2);
            case 13: return x.drift(9);
            case 14: return x.undo();
            default: return x.seed(77);
        }
    }

    private static int foretold(GossipBoat x, int k) {
        switch (k) {
            case 16: return x.rock(1);
            case 17: return x.next(1);
            case 18: return x.greedy(99, 1);
            case 19: return x.through();
            case 20: return x.plan(4, 3);
            case 21: return x.crew(0, 3, 1);
            case 22: return x.minds(0, 1);
            case 23: return x.once(4);
            case 24: return x.sway(0, 30, 1);
            case 25: return x.boats(1);
            case 26: return x.ring(1);
            case 27: return x.enough(1);
            case 28: return x.sick(1, 3, 0);
            case 29: return x.image();
            case 30: return x.restore();
            default: return x.type('7');
        }
    }

    private static int sheet(GossipBoat x, int k) {
        switch (k) {
            case 32: return x.sheet(0, 3, 24);
            case 33: return x.item(0, 3, 1, 6L);
            case 34: return x.felt(0, 3, 0, 5, 0);
            case 35: return x.film(0, 12, 0, 3, 12);
            case 36: return x.copy(0, 0, 0, 3, 20);
            default: return x.drop(0);
        }
    }

    /** All objects and arrays that can be reached from one, and how many fields and elements they have. */
    private static final class Room {
        final Map<Object, Boolean> seen = new IdentityHashMap<>();
        int items = 0;

        Room(Object from) throws Exception {
            walk(from);
        }

        private void walk(Object o) throws Exception {
            if (o == null || seen.put(o, true) != null) {
                return;
            }
            if (o.getClass().isArray()) {
                int length = Array.getLength(o);
                items += length;
                for (int k = 0; k < length && !o.getClass().getComponentType().isPrimitive(); k++) {
                    walk(Array.get(o, k));
                }
                return;
            }
            for (Field f : o.getClass().getDeclaredFields()) {
                if (!Modifier.isStatic(f.getModifiers())) {
                    items++;
                    f.setAccessible(true);
                    if (!f.getType().isPrimitive()) {
                        walk(f.get(o));
                    }
                }
            }
        }
    }
}
