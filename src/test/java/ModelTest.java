import java.util.Random;

/** Runs of up to 512 drawn calls, by fixed seeds, on the class and on the model: the answers are the same. */
public final class ModelTest {
    private static final int RUNS = 1500, CALLS = 512;
    private static final String[] SOME = {
        "14.22.9.40.17;p5,l3,d8,s4,c6,p2;12:024,7:13,16:345,5:01234,9:0", "3.0.7;s9;20:0,0", "60;c1,c2,c3;5:0,6:1,7:2",
        "1.2.3.4.5.6.7.8.9.10.11.12;p1,l2,d3,s4,c5;20:0,19:1,18:2,17:3,16:4", "9;d9,d9;7:0", "30.30;s3,s4,s5;11:0,8:12",
        " 5 . 6 ; p 1 , l 2 ; 1 2 : 0 1 ", "0.0.0;p1,p1;0:0,1:0", "60.60.60.60;s9,s9,l9,l9,c9,p9;20:012,20:345,20:024",
    };
    private static final String LETTERS = "0123456789 .;,:pldscx";

    private final Random r;
    private final GossipBoat x = new GossipBoat();
    private final Model m = new Model();
    private final Dues dues;
    private final String run;
    private String waiting = "";

    private ModelTest(long seed, Dues dues) {
        this.r = new Random(seed);
        this.run = "seed " + seed + ": ";
        this.dues = dues;
    }

    public static void main(String[] args) {
        Dues dues = new Dues();
        for (int seed = 0; seed < RUNS && dues.wrong() == 0; seed++) {
            new ModelTest(seed, dues).go();
        }
        dues.end();
    }

    private void go() {
        waiting = r.nextInt(3) == 0 ? "" : SOME[r.nextInt(SOME.length)] + "#";
        for (int k = 0; k < CALLS && dues.wrong() == 0; k++) {
            if (!waiting.isEmpty()) {
                typed();
            } else {
                drawn(r.nextInt(60));
            }
        }
    }

    private void typed() {
        char c = waiting.charAt(0);
        waiting = waiting.substring(1);
        if (c == '#') {
            due("canal()", x.canal(), m.canal());
        } else {
            due("type(" + (int) c + ")", x.type(c), m.type(c));
        }
    }

    private String text() {
        StringBuilder b = new StringBuilder(SOME[r.nextInt(SOME.length)]);
        for (int k = r.nextInt(4); k > 0; k--) {
            int at = r.nextInt(b.length());
            char c = LETTERS.charAt(r.nextInt(LETTERS.length()));
            switch (r.nextInt(4)) {
                case 0 -> b.setCharAt(at, c);
                case 1 -> b.insert(at, c);
                case 2 -> b.deleteCharAt(at).append(b.length() == 0 ? "9" : "");
                default -> b.setLength(Math.max(1, at));
            }
        }
        return b + "#";
    }

    // Mostly what stands, now and then just beyond it or far off.
    private int near(int least, int most) {
        return switch (r.nextInt(24)) {
            case 0 -> least - 1;
            case 1 -> most + 1;
            case 2 -> r.nextBoolean() ? Integer.MIN_VALUE : Integer.MAX_VALUE;
            default -> least + r.nextInt(most - least + 1);
        };
    }

    private int c() { return near(0, Math.max(0, m.w.ice.size() - 1)); }
    private int p() { return near(0, Math.max(0, m.w.people.size() - 1)); }
    private int s() { return near(0, Math.max(0, m.w.sayings.size() - 1)); }
    private int bit() { return near(0, 1); }

    private void due(String call, int got, int want) {
        dues.due(run + call, got, want);
    }

    private void drawn(int which) {
        if (which < 22) {
            told(which);
        } else if (which < 44) {
            foretold(which);
        } else {
            sheets(which);
        }
    }

    private void told(int which) {
        int a = 0, b = 0;
        switch (which) {
            case 0 -> { a = near(0, 60); due("cell(" + a + ")", x.cell(a), m.cell(a)); }
            case 1 -> { a = near(0, 4); b = near(1, 9); due("person(" + a + "," + b + ")", x.person(a, b), m.person(a, b)); }
            case 2 -> { a = near(0, 20); b = near(0, (1 << m.w.people.size()) - 1); due("saying(" + a + "," + b + ")", x.saying(a, b), m.saying(a, b)); }
            case 3 -> { a = c(); due("ice(" + a + ")", x.ice(a), m.ice(a)); }
            case 4 -> { a = p(); b = near(0, 2); due("of(" + a + "," + b + ")", x.of(a, b), m.of(a, b)); }
            case 5, 6 -> { a = s(); b = near(0, 3); due("at(" + a + "," + b + ")", x.at(a, b), m.at(a, b)); }
            case 7 -> { a = p(); b = s(); due("rocks(" + a + "," + b + ")", x.rocks(a, b), m.rocks(a, b)); }
            case 8 -> { a = near(0, 9); due("frost(" + a + ")", x.frost(a), m.frost(a)); }
            case 9 -> { if (r.nextInt(4) == 0) { waiting = text(); } }
            case 10 -> { a = near(32, 126); due("type(" + a + ")", x.type(a), m.type(a)); }
            case 11, 12 -> { a = near(0, 8); due("count(" + a + ")", x.count(a), m.count(a)); }
            case 13, 14 -> { a = r.nextInt(5) == 0 ? -4 : s(); due("say(" + a + ")", x.say(a), m.say(a)); }
            case 15 -> { a = c(); b = near(1, r.nextBoolean() ? 60 : 6); due("thaw(" + a + "," + b + ")", x.thaw(a, b), m.thaw(a, b)); }
            case 16 -> { a = p(); b = s(); due("mind(" + a + "," + b + ")", x.mind(a, b), m.mind(a, b)); }
            case 17 -> { a = near(1, r.nextBoolean() ? 40 : 3); due("drift(" + a + ")", x.drift(a), m.drift(a)); }
            case 18, 19 -> due("undo()", x.undo(), m.undo());
            case 20 -> { a = near(0, Integer.MAX_VALUE - 1); due("seed(" + a + ")", x.seed(a), m.seed(a)); }
            default -> { for (int k = 0; k < 9; k++) { due("count(" + k + ")", x.count(k), m.count(k)); } }
        }
    }

    private void foretold(int which) {
        int a = 0, b = 0, d = 0;
        switch (which) {
            case 22 -> { a = s(); due("rock(" + a + ")", x.rock(a), m.rock(a)); }
            case 23 -> { a = bit(); due("next(" + a + ")", x.next(a), m.next(a)); }
            case 24, 25 -> { a = near(0, 99); b = bit(); due("greedy(" + a + "," + b + ")", x.greedy(a, b), m.greedy(a, b)); }
            case 26 -> { if (r.nextInt(3) == 0) { due("through()", x.through(), m.through()); } }
            case 27, 28 -> { a = near(1, 3 + r.nextInt(8) / 7); b = near(-1, 4); due("plan(" + a + "," + b + ")", x.plan(a, b), m.plan(a, b)); }
            case 29, 30 -> { a = s(); b = near(1, 6); d = bit(); due("crew(" + a + "," + b + "," + d + ")", x.crew(a, b, d), m.crew(a, b, d)); }
            case 31 -> { a = s(); b = bit(); due("minds(" + a + "," + b + ")", x.minds(a, b), m.minds(a, b)); }
            case 32 -> { if (r.nextInt(6) == 0) { a = near(-1, 5); due("once(" + a + ")", x.once(a), m.once(a)); } }
            case 33, 34 -> { a = s(); b = near(1, r.nextBoolean() ? 200 : 40); d = bit(); due("sway(" + a + "," + b + "," + d + ")", x.sway(a, b, d), m.sway(a, b, d)); }
            case 35 -> { a = bit(); due("boats(" + a + ")", x.boats(a), m.boats(a)); }
            case 36, 37 -> { a = bit(); due("ring(" + a + ")", x.ring(a), m.ring(a)); }
            case 38, 39 -> { a = s(); due("enough(" + a + ")", x.enough(a), m.enough(a)); }
            case 40, 41 -> { a = s(); b = near(0, 10); d = bit(); due("sick(" + a + "," + b + "," + d + ")", x.sick(a, b, d), m.sick(a, b, d)); }
            case 42 -> { if (r.nextInt(3) == 0) { due("image()", x.image(), m.image()); } }
            default -> { if (r.nextInt(3) == 0) { due("restore()", x.restore(), m.restore()); } }
        }
    }

    private void sheets(int which) {
        int a = near(0, 3), b = near(0, 3), i = near(0, 12);
        if (r.nextInt(4) != 0 && a >= 0 && a < 4) {
            b = laneOf(a);
        }
        switch (which) {
            case 44, 45, 46, 47 -> { int n = near(1, 3); int w = bit(); due("felt(" + a + "," + b + "," + i + "," + n + "," + w + ")", x.felt(a, b, i, n, w), m.felt(a, b, i, n, w)); }
            case 48, 49 -> { int c = c(); int n = near(1, 5); due("film(" + c + "," + n + "," + a + "," + b + "," + i + ")", x.film(c, n, a, b, i), m.film(c, n, a, b, i)); }
            case 50, 51 -> { b = near(0, 3); int n = near(0, 24); due("sheet(" + a + "," + b + "," + n + ")", x.sheet(a, b, n), m.sheet(a, b, n)); }
            case 52 -> { if (r.nextInt(3) == 0) { due("drop(" + a + ")", x.drop(a), m.drop(a)); } }
            case 53, 54 -> { long v = r.nextLong() >> r.nextInt(64); due("item(" + a + "," + b + "," + i + "," + v + ")", x.item(a, b, i, v), m.item(a, b, i, v)); }
            case 55, 56 -> { int t = near(0, 3); int j = near(0, 20); int n = near(0, 9); due("copy(" + a + "," + i + "," + t + "," + j + "," + n + ")", x.copy(a, i, t, j, n), m.copy(a, i, t, j, n)); }
            default -> feltAsItIs(a, b);
        }
    }

    // A pair that does come about, by a set drawn, so that what is felt is seldom nothing.
    private void feltAsItIs(int a, int b) {
        if (m.w.sayings.isEmpty()) {
            return;
        }
        int pairs = 1 + r.nextInt(2), set = r.nextInt(1 << m.w.people.size());
        for (int k = 0; k < pairs; k++) {
            int s = r.nextInt(m.w.sayings.size());
            int by = m.w.rocked(new Model.Saying(m.w.sayings.get(s).juice, set));
            due("item", x.item(a, b, 2 * k, s), m.item(a, b, 2 * k, s));
            due("item", x.item(a, b, 2 * k + 1, by), m.item(a, b, 2 * k + 1, by));
        }
        for (int what = 0; what < 2; what++) {
            due("felt(" + a + "," + b + ",0," + pairs + "," + what + ")", x.felt(a, b, 0, pairs, what), m.felt(a, b, 0, pairs, what));
        }
    }

    private int laneOf(int sheet) {
        Object row = m.sheets[sheet];
        return row instanceof byte[] ? 0 : row instanceof short[] ? 1 : row instanceof int[] ? 2 : 3;
    }
}
