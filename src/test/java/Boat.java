import java.lang.reflect.InvocationTargetException;
import java.lang.reflect.Method;
import java.util.HashMap;
import java.util.Map;

/** An object under test: its calls are made by name, and counted, as only the first 512 are promised. */
final class Boat {
    private static final int PROMISED_CALLS = 512;
    private static final Map<String, Method> CALLS = calls();
    private final GossipBoat boat = new GossipBoat();
    private final Edge edge;
    private int asked = 0;

    Boat(Edge edge) {
        this.edge = edge;
    }

    private static Map<String, Method> calls() {
        Map<String, Method> calls = new HashMap<>();
        for (Method m : GossipBoat.class.getDeclaredMethods()) {
            calls.put(m.getName(), m);
        }
        return calls;
    }

    /** Makes a call and looks at its answer. */
    Boat is(long due, String call, long... args) {
        edge.due(told(call, args), ask(call, args), due);
        return this;
    }

    /** Makes a call whose answer another test looks at, but which must not be refused. */
    Boat does(String call, long... args) {
        int answer = ask(call, args);
        if (answer < 0) {
            edge.holds(told(call, args) + " is not refused", false);
        }
        return this;
    }

    int ask(String call, long... args) {
        asked++;
        if (asked > PROMISED_CALLS) {
            edge.holds("no more than 512 calls of one object", false);
        }
        Method m = CALLS.get(call);
        Object[] given = new Object[args.length];
        for (int k = 0; k < args.length; k++) {
            given[k] = m.getParameterTypes()[k] == long.class ? (Object) args[k] : (Object) Math.toIntExact(args[k]);
        }
        try {
            return (Integer) m.invoke(boat, given);
        } catch (IllegalAccessException | InvocationTargetException e) {
            throw new IllegalStateException(told(call, args), e);
        }
    }

    Boat types(String text) {
        for (int k = 0; k < text.length(); k++) {
            does("type", text.charAt(k));
        }
        return this;
    }

    static String told(String call, long... args) {
        StringBuilder b = new StringBuilder(call).append('(');
        for (int k = 0; k < args.length; k++) {
            b.append(k == 0 ? "" : ", ").append(args[k]);
        }
        return b.append(')').toString();
    }
}
