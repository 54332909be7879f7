import java.util.Arrays;

/** 'What it is' and 'Not promised': one voyage with all that it names, 512 calls of an object, objects apart. */
final class EdgeWhole {
    private static final int BAD = Edge.BAD, FULL = Edge.FULL, NONE = Edge.NONE, NULL = Edge.NULL;
    private static final int PROMISED_CALLS = 512, THREADS = 4;
    private static final String CANAL = "12.8;p3,l4,d2;9:0,6:12";
    private final Edge edge;

    EdgeWhole(Edge edge) {
        this.edge = edge;
    }

    void run() {
        opened();
        voyage();
        foretold();
        toldBack();
        lastCalls();
        apart();
        free();
    }

    private void opened() {
        edge.whole("Ice breaker by gossip: of a hard winter that canal is opened by an iron boat full of people who have something to say, "
            + "rocking, side to side, and it goes through as long as they are not agreed, and dull truth lets it close again;");
        edge.boat("6.6;p3,p4;9:0").is(6, "rock", 0).is(1, "say", 0).is(2, "say", 0).is(0, "through");
        // Agreed, for it or against it, it rocks nothing; so does what has no juice.
        Boat agreed = edge.boat("6.6;p3,p4;9:01,9,0:0").is(0, "rock", 0).is(0, "rock", 1).is(0, "rock", 2);
        agreed.is(0, "say", 0).is(7, "ice", 0).is(0, "say", 1).is(8, "ice", 0).is(0, "say", 2).is(9, "ice", 0).is(NONE, "through");
    }

    private void voyage() {
        edge.whole("cells of ice, people of kinds by how they rock, sayings with so much in them, of each who is for it;");
        Boat b = edge.boat(CANAL).is(2, "count", 0).is(3, "count", 1).is(2, "count", 2).is(20, "count", 6).is(15, "count", 7);
        b.is(3, "rocks", 0, 0).is(6, "rocks", 1, 0).is(2, "rocks", 2, 0).is(3, "at", 0, 2).is(8, "at", 0, 3).is(7, "at", 1, 2).is(3, "at", 1, 3);
        edge.whole("minute by minute, said, thawed, minds changed, by draws, undone;");
        b.is(0, "say", 0).is(7, "ice", 0).is(7, "at", 0, 0).is(7, "at", 1, 0);
        b.is(0, "say", 1).is(2, "ice", 0).is(8, "at", 0, 0).is(5, "at", 1, 0);
        b.is(1, "say", 0).is(0, "ice", 0).is(6, "at", 0, 0).is(6, "at", 1, 0).is(3, "count", 4);
        b.is(5, "thaw", 1, 3).is(0, "mind", 0, 0).is(0, "rock", 0).is(5, "count", 8);
        // 1 becomes 1103527590; by 65536 that is 16838, and 16838 left over by 3 is 2: nothing is said.
        b.is(1, "drift", 1).is(1103527590, "seed", 1103527590).is(6, "ice", 1).is(7, "at", 0, 0).is(7, "at", 1, 0).is(4, "count", 4);
        b.is(5, "undo").is(1, "seed", 1).is(5, "ice", 1).is(3, "count", 4).is(4, "undo").is(1, "at", 0, 1).is(6, "rock", 0);
    }

    private void foretold() {
        edge.whole("how much a saying rocks, how far it comes, when it sticks;");
        Boat b = edge.boat(CANAL).is(6, "rock", 0).is(6, "rock", 1).is(0, "next", 0).is(6, "next", 1);
        // Behind the first minute 7, then 2, then the next cell: 8, 3, none.
        b.is(0, "greedy", 1, 0).is(7, "greedy", 1, 1).is(0, "greedy", 2, 0).is(2, "greedy", 2, 1).is(1, "greedy", 3, 0).is(8, "greedy", 3, 1);
        b.is(5, "through").is(1, "frost", 6).is(NONE, "through").is(6, "frost", 1);
        edge.whole("what to say next, in which order for so many minutes, whom to take for a crew, who should change his mind, how many, "
            + "two boats, rounds for ever, how much juice it takes;");
        b.is(0, "plan", 2, -1).is(0, "plan", 2, 0).is(0, "once", -1).is(0, "once", 0).is(1, "once", 1);
        b.is(6, "crew", 0, 2, 0).is(3, "crew", 0, 2, 1);
        // Of 3, 6 and 2 at saying 0, with the dull one for it too: twice 5.
        b.is(2, "minds", 0, 0).is(10, "minds", 0, 1).is(1, "sway", 0, 7, 0).is(4, "sway", 0, 7, 1).is(NONE, "sway", 0, 11, 0);
        b.is(0, "boats", 0).is(0, "boats", 1).is(NONE, "enough", 0);
        b.does("thaw", 0, 6).is(1, "enough", 0);
        // All through, with one saying that has no juice: only even and odd minutes go round.
        edge.boat("0;p1;0:0").is(1, "say", 0).is(2, "ring", 0).is(2, "ring", 1);
    }

    private void toldBack() {
        edge.whole("who was for it, by how it rocked; the odds, if some are sick; canals as texts; images; sheets that may be missing.");
        Boat b = edge.boat(CANAL).is(NULL, "drop", 0).is(NULL, "felt", 0, 2, 0, 1, 0).is(2, "sheet", 0, 2, 2).is(1, "item", 0, 2, 1, 10);
        // Twice the lesser is 10 only where 3 and 2 are against 6.
        b.is(2, "felt", 0, 2, 0, 1, 0).is(2, "felt", 0, 2, 0, 1, 1);
        // It takes both who matter: the plain one, and somebody against it who rocks by 3 at least.
        b.does("thaw", 0, 6).is(1, "sick", 0, 5, 0).is(4, "sick", 0, 5, 1);
        b.is(1, "image").is(1, "say", 0).is(1, "restore").is(0, "count", 3).is(6, "ice", 0).is(2, "drop", 0);
    }

    private void lastCalls() {
        edge.whole("An object is used for at most 512 calls after it has been made; what later calls answer is free.");
        Boat said = edge.boat();
        for (int k = 1; k < PROMISED_CALLS; k++) {
            said.is(0, "say", NONE);
        }
        said.is(PROMISED_CALLS - 1, "count", 4);
        // 249 drifts of 40 minutes end at minute 9960.
        Boat drifted = edge.boat();
        for (int k = 1; k < PROMISED_CALLS; k++) {
            drifted.is(k <= 249 ? 0 : FULL, "drift", 40);
        }
        drifted.is(9960, "count", 4);

        edge.free("Nothing is promised beyond the answers and state changes described above, and nothing about an object after its 512th call.");
        oneBeforeLast().is(6, "rock", 0);
        oneBeforeLast().is(4, "through");
        oneBeforeLast().is(4, "greedy", 1, 1);
        oneBeforeLast().is(1, "plan", 2, -1);
        oneBeforeLast().is(7, "undo");
        oneBeforeLast().is(2, "cell", 5);
        oneBeforeLast().is(24, "sheet", 3, 3, 24);
        oneBeforeLast().is(-20, "canal");
        oneBeforeLast().is(1, "image");
        oneBeforeLast().is(NONE, "restore");
        oneBeforeLast().is(BAD, "ice", 2);
    }

    /** A boat that has been asked 511 times: 13 letters, a canal, a mind changed forth and back, one more. */
    private Boat oneBeforeLast() {
        Boat b = edge.boat("9.9;p3,p4;9:0");
        for (int k = 0; k < 248; k++) {
            b.does("mind", 0, 0).does("mind", 0, 0);
        }
        return b.does("count", 0);
    }

    private void apart() {
        edge.free("Use of one object from several threads at once is not promised to be safe.");
        // Objects of its own each thread may have: nothing is shared among them.
        int[][] answers = new int[THREADS][];
        Thread[] threads = new Thread[THREADS];
        for (int t = 0; t < THREADS; t++) {
            int mine = t;
            threads[t] = new Thread(() -> answers[mine] = answers(new GossipBoat(), mine));
            threads[t].start();
        }
        for (int t = 0; t < THREADS; t++) {
            join(threads[t]);
            edge.same("thread " + t, Arrays.toString(answers[t]), Arrays.toString(answers(new GossipBoat(), t)));
        }
    }

    private static void join(Thread thread) {
        try {
            thread.join();
        } catch (InterruptedException e) {
            throw new IllegalStateException(e);
        }
    }

    private static int[] answers(GossipBoat x, int seed) {
        int[] all = new int[500];
        for (int c = 0; c < 12; c++) {
            x.cell(40 + seed);
        }
        for (int p = 0; p < 6; p++) {
            x.person((p + seed) % 5, p + 1);
        }
        for (int s = 0; s < 5; s++) {
            x.saying(20 - s, 9 * (s + 1));
        }
        x.seed(seed);
        for (int k = 24; k < all.length; k++) {
            int what = k & 1;
            switch (k % 6) {
                case 0: all[k] = x.drift(1); break;
                case 1: all[k] = x.plan(3, what); break;
                case 2: all[k] = x.boats(what); break;
                case 3: all[k] = x.ring(what); break;
                case 4: all[k] = x.greedy(30, what); break;
                default: all[k] = x.count(6); break;
            }
        }
        return all;
    }

    private void free() {
        edge.free("How the state is held inside the object is free, as are the speed of each call, the text of toString and the behaviour of "
            + "equals and hashCode.");
        // But no answer depends on which object it is.
        Boat one = Worlds.small(edge);
        Boat other = Worlds.small(edge);
        edge.same("two boats on which the same was done", Probe.of(one), Probe.of(other));
    }
}
