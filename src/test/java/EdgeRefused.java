import java.util.HashMap;
import java.util.Map;
import java.util.Set;
import java.util.TreeSet;
import java.util.function.Function;
import java.util.regex.Matcher;
import java.util.regex.Pattern;

/**
 * What is refused changes nothing: each refusal of each call is made on one of two like boats, and a probe of both
 * sees the same. And of several refusals the first is answered.
 */
final class EdgeRefused {
    private static final int BAD = Edge.BAD, NOT = Edge.NOT, FULL = Edge.FULL, NONE = Edge.NONE, NULL = Edge.NULL;
    private static final int CAST = Edge.CAST, INDEX = Edge.INDEX, SIZE = Edge.SIZE;
    private static final String[] CALLS = {"cell", "person", "saying", "ice", "of", "at", "rocks", "frost", "type", "canal", "count",
        "say", "thaw", "mind", "drift", "undo", "seed", "rock", "next", "greedy", "through", "plan", "crew", "minds", "once", "sway",
        "boats", "ring", "enough", "sick", "image", "restore", "felt", "film", "sheet", "drop", "item", "copy"};
    private final Edge edge;
    private final Map<String, String> probes = new HashMap<>();
    private final Map<String, Set<String>> refused = new HashMap<>();
    private String world = "";
    private Function<Edge, Boat> making = null;

    EdgeRefused(Edge edge) {
        this.edge = edge;
    }

    void run() {
        edge.terms("What is refused changes nothing, but as told.");
        in("small", Worlds::small);
        told();
        done();
        foretold();
        sheets();
        in("full", Worlds::full);
        full();
        in("typed", Worlds::typed);
        refuse(FULL, "type", ' ').refuse(FULL, "type", 'x').refuse(BAD, "type", 127);
        in("late", e -> Worlds.late(e, 0));
        refuse(FULL, "say", NONE).refuse(FULL, "say", 0).refuse(FULL, "drift", 1).refuse(FULL, "drift", 40);
        in("not so late", e -> Worlds.late(e, 39));
        refuse(FULL, "drift", 40);
        in("new", e -> e.boat());
        none();
        in("stuck", EdgeRefused::stuck);
        stuck();
        // A text with a fault leaves an empty tape, which is told: EdgeText looks at it.
        refused.computeIfAbsent("canal", c -> new TreeSet<>()).add("FAULT");
        everyRefusal();
        order();
        orderOfNone();
        orderOfSheets();
    }

    private void in(String name, Function<Edge, Boat> made) {
        world = name;
        making = made;
    }

    private EdgeRefused refuse(int code, String call, long... args) {
        Boat b = making.apply(edge).is(code, call, args);
        String was = probes.computeIfAbsent(world, w -> Probe.of(making.apply(edge)));
        edge.same("all as it was behind " + Boat.told(call, args), Probe.of(b), was);
        refused.computeIfAbsent(call, c -> new TreeSet<>()).add(name(code));
        return this;
    }

    private static String name(int code) {
        switch (code) {
            case BAD: return "BAD";
            case NOT: return "NOT";
            case FULL: return "FULL";
            case NONE: return "NONE";
            case NULL: return "NULL";
            case CAST: return "CAST";
            case INDEX: return "INDEX";
            default: return "SIZE";
        }
    }

    private static Boat stuck(Edge edge) {
        return edge.boat("60.60.60.60.60.60.60.60.60.60.60.31;l1,p9;20:0,20:0,20:0").does("frost", 9);
    }

    private void told() {
        refuse(BAD, "cell", -1).refuse(BAD, "cell", 61);
        refuse(BAD, "person", -1, 1).refuse(BAD, "person", 5, 1).refuse(BAD, "person", 0, 0).refuse(BAD, "person", 0, 10);
        refuse(BAD, "saying", -1, 0).refuse(BAD, "saying", 21, 0).refuse(BAD, "saying", 5, 8).refuse(BAD, "saying", 5, -1);
        refuse(BAD, "ice", -1).refuse(BAD, "ice", 3);
        refuse(BAD, "of", 3, 0).refuse(BAD, "of", -1, 0).refuse(BAD, "of", 0, 3).refuse(BAD, "of", 0, -1);
        refuse(BAD, "at", 2, 0).refuse(BAD, "at", -1, 0).refuse(BAD, "at", 0, 4).refuse(BAD, "at", 0, -1);
        refuse(BAD, "rocks", 3, 0).refuse(BAD, "rocks", -1, 0).refuse(BAD, "rocks", 0, 2).refuse(BAD, "rocks", 0, -1);
        refuse(BAD, "frost", -1).refuse(BAD, "frost", 10).refuse(BAD, "type", 31).refuse(BAD, "type", 127);
        refuse(BAD, "count", -1).refuse(BAD, "count", 9);
    }

    private void done() {
        refuse(BAD, "say", 2).refuse(BAD, "say", -1).refuse(BAD, "say", -5);
        refuse(BAD, "thaw", 1, 0).refuse(BAD, "thaw", 1, 61).refuse(BAD, "thaw", 3, 1).refuse(BAD, "thaw", -1, 1).refuse(NOT, "thaw", 0, 1);
        refuse(BAD, "mind", 3, 0).refuse(BAD, "mind", -1, 0).refuse(BAD, "mind", 0, 2).refuse(BAD, "mind", 0, -1);
        refuse(BAD, "drift", 0).refuse(BAD, "drift", 41).refuse(BAD, "seed", -1).refuse(BAD, "seed", Edge.LEAST);
    }

    private void foretold() {
        refuse(BAD, "rock", 2).refuse(BAD, "rock", -1).refuse(BAD, "next", 2).refuse(BAD, "next", -1);
        refuse(BAD, "greedy", 100, 0).refuse(BAD, "greedy", -1, 0).refuse(BAD, "greedy", 0, 2);
        refuse(BAD, "plan", 0, 0).refuse(BAD, "plan", 5, 0).refuse(BAD, "plan", 1, -2).refuse(NONE, "plan", 4, 4);
        refuse(BAD, "crew", 2, 1, 0).refuse(BAD, "crew", 0, 0, 0).refuse(BAD, "crew", 0, 7, 0).refuse(NONE, "crew", 0, 4, 0);
        refuse(BAD, "minds", 2, 0).refuse(BAD, "minds", 0, 2).refuse(BAD, "once", -2).refuse(NONE, "once", 2);
        refuse(BAD, "sway", 2, 1, 0).refuse(BAD, "sway", 0, 0, 0).refuse(BAD, "sway", 0, 201, 0).refuse(NONE, "sway", 0, 200, 1);
        refuse(BAD, "boats", 2).refuse(BAD, "ring", 2).refuse(BAD, "enough", 2).refuse(BAD, "enough", -1);
        refuse(BAD, "sick", 2, 0, 0).refuse(BAD, "sick", 0, 11, 0).refuse(BAD, "sick", 0, -1, 0).refuse(BAD, "sick", 0, 0, 2);
    }

    private void sheets() {
        refuse(BAD, "felt", 4, 2, 0, 1, 0).refuse(BAD, "felt", 0, 4, 0, 1, 0).refuse(BAD, "felt", 0, 2, 0, 6, 0);
        refuse(NULL, "felt", 3, 2, 0, 1, 0).refuse(CAST, "felt", 0, 1, 0, 1, 0).refuse(INDEX, "felt", 0, 2, 5, 1, 0).refuse(NOT, "felt", 0, 2, 0, 1, 0);
        refuse(NONE, "felt", 2, 0, 0, 1, 1);
        refuse(BAD, "film", 0, 4, 0, 2, 0).refuse(BAD, "film", 3, 1, 0, 2, 0).refuse(BAD, "film", 0, 1, 4, 2, 0).refuse(BAD, "film", 0, 1, 0, 4, 0);
        refuse(NULL, "film", 0, 3, 3, 2, 0).refuse(CAST, "film", 0, 3, 0, 3, 0).refuse(INDEX, "film", 0, 3, 0, 2, 4).refuse(INDEX, "film", 0, 3, 0, 2, -1);
        refuse(BAD, "sheet", 4, 2, 3).refuse(BAD, "sheet", 0, 4, 3).refuse(BAD, "sheet", 0, 2, 25).refuse(SIZE, "sheet", 0, 2, -1);
        refuse(BAD, "sheet", 3, 2, 25).refuse(SIZE, "sheet", 3, 2, -1).refuse(BAD, "drop", 4).refuse(BAD, "drop", -1).refuse(NULL, "drop", 3);
        refuse(BAD, "item", 4, 2, 0, 2).refuse(BAD, "item", 0, 4, 0, 2).refuse(NULL, "item", 3, 2, 0, 2).refuse(CAST, "item", 0, 3, 0, 2);
        refuse(INDEX, "item", 0, 2, 6, 2).refuse(INDEX, "item", 0, 2, -1, 2);
        refuse(BAD, "copy", 0, 0, 4, 0, 1).refuse(BAD, "copy", 4, 0, 0, 0, 1).refuse(NULL, "copy", 0, 0, 3, 0, 1).refuse(NULL, "copy", 3, 0, 0, 0, 1);
        refuse(CAST, "copy", 0, 0, 1, 0, 1).refuse(INDEX, "copy", 0, 3, 0, 0, 4).refuse(INDEX, "copy", 0, 0, 0, 3, 4).refuse(INDEX, "copy", 0, 1, 0, 2, -1);
    }

    private void full() {
        refuse(FULL, "cell", 5).refuse(FULL, "person", 0, 5).refuse(FULL, "saying", 5, 1);
        refuse(BAD, "cell", 61).refuse(BAD, "person", 5, 5).refuse(BAD, "saying", 5, 64);
    }

    private void none() {
        refuse(NONE, "undo").refuse(NONE, "restore").refuse(NONE, "next", 0).refuse(NONE, "next", 1);
        refuse(NONE, "plan", 1, -1).refuse(NONE, "once", -1).refuse(BAD, "say", 0).refuse(BAD, "thaw", 0, 1).refuse(BAD, "film", 0, 1, 0, 0, 0);
    }

    private void stuck() {
        refuse(NONE, "through").refuse(NONE, "ring", 0).refuse(NONE, "ring", 1).refuse(NONE, "minds", 0, 0).refuse(NONE, "minds", 0, 1);
        refuse(NONE, "enough", 0).refuse(NONE, "crew", 0, 3, 1).refuse(NONE, "sway", 0, 13, 0).refuse(NONE, "undo").refuse(NONE, "restore");
    }

    // Every refusal that a promise names was made above; say names NONE as what may be said.
    private void everyRefusal() {
        Pattern codes = Pattern.compile("\\b(BAD|NOT|FULL|NONE|NULL|CAST|INDEX|SIZE|FAULT)\\b");
        for (int k = 0; k < CALLS.length; k++) {
            Matcher m = codes.matcher(edge.text(k + 2));
            while (m.find()) {
                boolean isSaid = CALLS[k].equals("say") && m.group().equals("NONE");
                edge.holds(CALLS[k] + " refused by " + m.group(), isSaid || refused.getOrDefault(CALLS[k], Set.of()).contains(m.group()));
            }
        }
    }

    private void order() {
        edge.terms("Answers below 0, of several the first that a call names: BAD -1 (a number is not as told, there is no such thing), "
            + "NOT -2 (as told), FULL -3, NONE -4 (as told), CAST -12 (of SHEETS another LANE); what the machine finds: NULL -11, "
            + "INDEX -13, SIZE -14 (NULL, CAST, INDEX, SIZE in this order).");
        Worlds.full(edge).is(BAD, "cell", 61).is(BAD, "person", 0, 10).is(BAD, "saying", 21, 0).is(BAD, "saying", 0, 64);
        Worlds.typed(edge).is(BAD, "type", 31).is(BAD, "type", 127);
        Worlds.late(edge, 0).is(BAD, "say", 1).is(BAD, "say", -1).is(BAD, "drift", 0).is(BAD, "drift", 41);
        edge.boat("0;p1").is(BAD, "thaw", 0, 0).is(BAD, "thaw", 0, 61).is(NOT, "thaw", 0, 1).is(NOT, "thaw", 0, 60);
    }

    // A number that is not as told goes ahead of NONE: so ../shared/tests has it of crew(0, 7, 0).
    private void orderOfNone() {
        edge.boat().is(BAD, "next", 2).is(BAD, "plan", 0, -1).is(BAD, "plan", 1, -2).is(BAD, "once", -2);
        edge.boat("9;p1;5").is(BAD, "crew", 0, 7, 0).is(BAD, "crew", 0, 2, 2).is(BAD, "minds", 0, 2).is(BAD, "sway", 0, 200, 2);
        stuck(edge).is(BAD, "ring", 2).is(BAD, "enough", 3).is(BAD, "minds", 3, 0).is(BAD, "sway", 0, 201, 0).is(BAD, "sway", 3, 200, 0);
    }

    private void orderOfSheets() {
        Boat b = Worlds.small(edge);
        b.is(BAD, "felt", 3, 4, 9, 1, 0).is(NULL, "felt", 3, 1, 9, 1, 0).is(CAST, "felt", 0, 1, 9, 1, 0).is(INDEX, "felt", 0, 2, 5, 1, 0);
        b.is(INDEX, "felt", 0, 2, 0, 4, 0).is(NOT, "felt", 0, 2, 0, 3, 0);
        b.is(BAD, "film", 0, 4, 3, 1, 9).is(NULL, "film", 0, 3, 3, 1, 9).is(CAST, "film", 0, 3, 0, 1, 9).is(INDEX, "film", 0, 3, 0, 2, 9);
        b.is(BAD, "item", 3, 4, 9, 1).is(NULL, "item", 3, 1, 9, 1).is(CAST, "item", 0, 1, 9, 1).is(INDEX, "item", 0, 2, 9, 1);
        b.is(BAD, "copy", 3, 9, 4, 9, 9).is(NULL, "copy", 3, 9, 0, 9, 9).is(NULL, "copy", 0, 9, 3, 9, 9).is(CAST, "copy", 0, 9, 1, 9, 9);
        b.is(INDEX, "copy", 0, 9, 0, 9, 9).is(BAD, "sheet", 4, 0, -1).is(BAD, "sheet", 0, 4, -1).is(SIZE, "sheet", 0, 0, -1);
    }
}
