import java.lang.reflect.Method;
import java.util.Arrays;
import java.util.HashMap;
import java.util.Map;

/**
 * Every call with all of the least, the last fine, the first wrong and the utmost arguments together, in some states, on the
 * class and on the model: no call throws, and the answers are the same.
 */
public final class SweepTest {
    private static final int CALLS = 400;
    private static final long LEAST = Integer.MIN_VALUE, MOST = Integer.MAX_VALUE;
    private static final long[][] VALUES = {
        {},
        range(-6, 202, LEAST, LEAST + 1, MOST - 1, MOST),
        range(-5, 12, LEAST, LEAST + 1, 20, 21, 31, 32, 59, 60, 61, 63, 64, 98, 99, 100, MOST - 1, MOST),
        range(-2, 7, LEAST, 10, 11, 23, 24, 25, 199, 200, 201, MOST),
        {LEAST, -1, 0, 1, 2, 3, 4, 22, 23, 24, 256, MOST},
        {LEAST, -1, 0, 1, 2, 5, 22, MOST},
    };
    private static final String[] STATES = {
        "", "9.0.30;p3,l4,s2;9:0,12:12", "60.60.60.60.60.60.60.60.60.60.60.60;p1,l2,d3,s4,c5,p6;20:012345,6:0,5:45,1:1,0:2", "0;c9",
    };
    private final Dues dues = new Dues();
    private final Map<String, Method> modelled = new HashMap<>();
    private String state = "";
    private GossipBoat boat = null;
    private Model model = null;
    private int asked = CALLS;

    public static void main(String[] args) throws Exception {
        SweepTest test = new SweepTest();
        for (Method m : Model.class.getDeclaredMethods()) {
            test.modelled.put(m.getName() + m.getParameterCount(), m);
        }
        for (String state : STATES) {
            test.state = state;
            for (Method call : GossipBoat.class.getDeclaredMethods()) {
                if (java.lang.reflect.Modifier.isPublic(call.getModifiers())) {
                    test.asked = CALLS;
                    test.sweep(call, new Object[call.getParameterCount()], 0);
                }
            }
        }
        test.dues.end();
    }

    private static long[] range(int least, int most, long... more) {
        long[] all = Arrays.copyOf(more, more.length + most - least + 1);
        for (int v = least; v <= most; v++) {
            all[more.length + v - least] = v;
        }
        return all;
    }

    private void sweep(Method call, Object[] args, int k) throws Exception {
        if (k == args.length) {
            ask(call, args);
            return;
        }
        for (long v : VALUES[args.length]) {
            args[k] = call.getParameterTypes()[k] == long.class ? (Object) v : (Object) (int) v;
            sweep(call, args, k + 1);
        }
    }

    private void ask(Method call, Object[] args) throws Exception {
        if (asked >= CALLS) {
            begin();
        }
        asked++;
        int got = (Integer) call.invoke(boat, args);
        int want = (Integer) modelled.get(call.getName() + args.length).invoke(model, args);
        dues.due("in '" + state + "' " + call.getName() + Arrays.toString(args), got, want);
    }

    private void begin() {
        boat = new GossipBoat();
        model = new Model();
        asked = state.length();
        for (char letter : state.toCharArray()) {
            boat.type(letter);
            model.type(letter);
        }
        dues.due("canal " + state, boat.canal(), model.canal());
        for (int sheet = 0; sheet < 3; sheet++) {
            dues.due("sheet", boat.sheet(sheet, sheet + 1, 24 - 12 * sheet), model.sheet(sheet, sheet + 1, 24 - 12 * sheet));
        }
        dues.due("say", boat.say(GossipBoat.NONE), model.say(GossipBoat.NONE));
    }
}
