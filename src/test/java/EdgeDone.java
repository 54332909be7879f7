/** The edges of what is done: a minute, thawed, minds, drift, undone, seed (promises 13 to 18, and 'Terms'). */
final class EdgeDone {
    private static final int BAD = Edge.BAD, NOT = Edge.NOT, FULL = Edge.FULL, NONE = Edge.NONE;
    private static final int LEAST = Edge.LEAST, MOST = Edge.MOST;
    private final Edge edge;

    EdgeDone(Edge edge) {
        this.edge = edge;
    }

    void run() {
        rocksTheBoat();
        iceLess();
        nextCell();
        thicker();
        juiceLess();
        juiceMore();
        nextMinute();
        beingThrough();
        say();
        lastMinute();
        thawed();
        thaw();
        minds();
        mind();
        drawn();
        drawnLowestBits();
        drift();
        driftFull();
        undone();
        undoneLost();
        undoneAsAhead();
        nothingToBeUndone();
        undo();
        seed();
    }

    private void rocksTheBoat() {
        edge.terms("A SAYING ROCKS THE BOAT by twice the lesser of what all who are FOR it, and all who are AGAINST it, "
            + "ROCK; nothing, if it has no JUICE.");
        edge.boat("60;p3,p4;9:0,9:1,9,9:01").is(6, "rock", 0).is(6, "rock", 1).is(0, "rock", 2).is(0, "rock", 3);
        edge.boat("60;p4,p4,p5;1:0,0:0,1:01,1:2").is(8, "rock", 0).is(0, "rock", 1).is(10, "rock", 2).is(10, "rock", 3);
        edge.boat("60;p4;9,9:0").is(0, "rock", 0).is(0, "rock", 1);
        edge.boat().is(0, "saying", 9, 0).is(0, "rock", 0);
        edge.boat("60;s9,l9,l9,s9,l9,l9;20:012").is(84, "rock", 0);
    }

    // Somebody of 3 and somebody of 4, one for the only saying: it rocks by 6.
    private Boat six(String cells) {
        return edge.boat(cells + ";p3,p4;9:0");
    }

    private void iceLess() {
        edge.terms("A MINUTE in which a SAYING is SAID (or nothing is): the CELL ahead has as much less ICE as that ROCKS "
            + "(0 at least);");
        six("5.9").is(1, "say", 0).is(0, "ice", 0).is(9, "ice", 1);
        six("6.9").is(1, "say", 0).is(0, "ice", 0).is(9, "ice", 1);
        six("7.9").does("frost", 0).is(0, "say", 0).is(1, "ice", 0).is(9, "ice", 1);
        six("60").does("frost", 0).is(0, "say", 0).is(54, "ice", 0);
        six("7.9").does("frost", 0).is(0, "say", NONE).is(7, "ice", 0).is(9, "ice", 1);
        edge.boat("9;p3,p4;9").does("frost", 0).is(0, "say", 0).is(9, "ice", 0);
    }

    private void nextCell() {
        edge.terms("if it has none then, THE BOAT is ahead of the next one;");
        six("0.0.5").is(1, "say", NONE).is(5, "ice", 2).is(2, "say", NONE).is(5, "ice", 2).is(2, "say", NONE).is(6, "ice", 2);
        six("0.5").is(1, "say", 0).is(5, "ice", 1).is(2, "say", 0);
        six("1").is(0, "say", NONE).is(1, "say", 0).is(1, "count", 0).is(0, "through");
        six("6").does("frost", 9).is(1, "say", 0).is(0, "ice", 0);
    }

    private void thicker() {
        edge.terms("else FROST makes it so much thicker (60 at most).");
        int[][] ices = {{1, 58, 59}, {1, 59, 60}, {1, 60, 60}, {9, 50, 59}, {9, 51, 60}, {9, 52, 60}, {0, 60, 60}, {0, 1, 1}, {9, 1, 10}};
        for (int[] of : ices) {
            edge.boat(of[1] + ";p1").does("frost", of[0]).is(0, "say", NONE).is(of[2], "ice", 0);
        }
        int[][] said = {{7, 10}, {56, 59}, {57, 60}, {58, 60}, {60, 60}};
        for (int[] of : said) {
            six(of[0] + ".60").does("frost", 9).is(0, "say", 0).is(of[1], "ice", 0).is(60, "ice", 1);
        }
    }

    private void juiceLess() {
        edge.terms("The SAYING has 2 less JUICE (0 at least),");
        int[] behind = {0, 0, 0, 1, 18};
        for (int s = 0; s < 5; s++) {
            edge.boat("60;p1;0,1,2,3,20").does("say", s).is(behind[s], "at", s, 0);
        }
        edge.boat("60;p1;5").does("say", 0).is(3, "at", 0, 0).does("say", 0).is(1, "at", 0, 0).does("say", 0)
            .is(0, "at", 0, 0).does("say", 0).is(0, "at", 0, 0).does("say", NONE).is(0, "at", 0, 0);
    }

    private void juiceMore() {
        edge.terms("all others have 1 more, if they have any (20 at most).");
        Boat b = edge.boat("60;p1;0,1,18,19,20").does("say", 0);
        b.is(0, "at", 0, 0).is(2, "at", 1, 0).is(19, "at", 2, 0).is(20, "at", 3, 0).is(20, "at", 4, 0);
        b.does("say", NONE).is(0, "at", 0, 0).is(3, "at", 1, 0).is(20, "at", 2, 0).is(20, "at", 3, 0).is(20, "at", 4, 0);
        b.does("say", 4).is(0, "at", 0, 0).is(4, "at", 1, 0).is(20, "at", 2, 0).is(20, "at", 3, 0).is(18, "at", 4, 0);
    }

    private void nextMinute() {
        edge.terms("It is the next MINUTE.");
        Boat b = six("60").does("say", 0).is(1, "count", 4).does("say", NONE).is(2, "count", 4).does("drift", 3);
        b.is(5, "count", 4).is(BAD, "say", 1).is(5, "count", 4).does("thaw", 0, 1).does("mind", 0, 0).is(5, "count", 4);
    }

    private void beingThrough() {
        edge.terms("(THE BOAT being THROUGH: JUICE alone changes.)");
        Boat b = edge.boat("6;p3,p4;9:0,5,20,0").does("frost", 9).is(1, "say", 0);
        b.is(1, "say", 0).is(0, "ice", 0).is(5, "at", 0, 0).is(7, "at", 1, 0).is(20, "at", 2, 0).is(0, "at", 3, 0);
        b.is(1, "say", NONE).is(0, "ice", 0).is(6, "at", 0, 0).is(8, "at", 1, 0).is(0, "count", 6).is(1, "count", 3);
        edge.boat().is(0, "say", NONE).is(0, "count", 3).is(0, "drift", 40).is(0, "count", 3);
    }

    private void say() {
        edge.promise(13, "A MINUTE in which a SAYING is SAID (NONE: nothing): ahead of which CELL THE BOAT is. BAD;");
        Boat b = edge.boat("6.9;p3,p4;9,9:0");
        b.is(BAD, "say", 2).is(BAD, "say", -1).is(BAD, "say", -2).is(BAD, "say", -3).is(BAD, "say", -5);
        b.is(BAD, "say", LEAST).is(BAD, "say", MOST).is(0, "count", 4).is(0, "count", 8);
        b.is(0, "say", NONE).is(0, "say", 0).is(0, "say", 1).is(1, "say", 1).is(1, "say", NONE);
        edge.boat().is(BAD, "say", 0).is(0, "say", NONE);
    }

    /** A boat that has drifted to a minute by as few calls as can be. */
    static Boat at(Boat b, int minute) {
        for (int m = 0; m < minute;) {
            int n = Math.min(40, minute - m);
            b.does("drift", n);
            m += n;
        }
        return b;
    }

    private void lastMinute() {
        edge.promise(13, "FULL: the MINUTE would be above 9999.");
        Boat b = at(six("60.9"), 9998).is(9998, "count", 4).is(0, "say", NONE).is(9999, "count", 4);
        b.is(FULL, "say", NONE).is(FULL, "say", 0).is(9999, "count", 4).is(8, "count", 8);
        b.is(BAD, "say", 1).is(BAD, "say", -1);
        b.is(7, "undo").is(9998, "count", 4).is(0, "say", 0).is(9999, "count", 4).is(FULL, "say", 0);
        // What takes no minute, and what is foretold, is no fuller by it.
        b.is(0, "thaw", 0, 60).is(0, "mind", 0, 0).is(2, "ring", 1).is(1, "greedy", 1, 0).is(1, "plan", 1, -1);
    }

    private void thawed() {
        edge.terms("THAWED: a CELL has n less ICE (0 at least).");
        edge.boat("9;p1").is(1, "thaw", 0, 8).is(1, "ice", 0);
        edge.boat("9;p1").is(0, "thaw", 0, 9).is(0, "ice", 0);
        edge.boat("9;p1").is(0, "thaw", 0, 10).is(0, "ice", 0);
        edge.boat("60.60;p1").is(59, "thaw", 0, 1).is(0, "thaw", 1, 60).is(59, "ice", 0).is(0, "ice", 1);
    }

    private void thaw() {
        edge.promise(14, "THAWED by n (1 .. 60): ICE. BAD;");
        Boat b = edge.boat("60.60.60;p1");
        b.is(BAD, "thaw", 0, 0).is(BAD, "thaw", 0, 61).is(BAD, "thaw", 0, -1).is(BAD, "thaw", 0, LEAST).is(BAD, "thaw", 0, MOST);
        b.is(BAD, "thaw", 3, 1).is(BAD, "thaw", -1, 1).is(BAD, "thaw", LEAST, 1).is(BAD, "thaw", MOST, 1);
        b.is(180, "count", 6).is(0, "count", 8).is(59, "thaw", 0, 1).is(0, "thaw", 2, 60).is(2, "count", 8);
        edge.boat().is(BAD, "thaw", 0, 1);

        edge.promise(14, "NOT: it has none.");
        b.is(NOT, "thaw", 2, 1).is(NOT, "thaw", 2, 60).is(BAD, "thaw", 2, 0).is(BAD, "thaw", 2, 61).is(2, "count", 8);
        Boat behind = edge.boat("0.1;p1").is(NOT, "thaw", 0, 1).is(1, "say", NONE).is(NOT, "thaw", 0, 1);
        behind.is(0, "thaw", 1, 1).is(NOT, "thaw", 1, 1).is(1, "count", 3).is(2, "say", NONE);
    }

    private void minds() {
        edge.terms("MIND: one is FOR a SAYING who was AGAINST it, or the other way round.");
        Boat b = edge.boat("9;p1,p1,p1,p1,p1,p1;5,5:012345");
        b.is(1, "mind", 0, 0).is(33, "mind", 5, 0).is(32, "mind", 0, 0).is(0, "mind", 5, 0);
        b.is(62, "mind", 0, 1).is(30, "mind", 5, 1).is(0, "at", 0, 1).is(30, "at", 1, 1);
    }

    private void mind() {
        edge.promise(15, "MIND: who is FOR the SAYING then (a set). BAD.");
        Boat b = edge.boat("9;p1,p2;5:0,5");
        b.is(BAD, "mind", 2, 0).is(BAD, "mind", -1, 0).is(BAD, "mind", 0, 2).is(BAD, "mind", 0, -1);
        b.is(BAD, "mind", LEAST, 0).is(BAD, "mind", MOST, 0).is(BAD, "mind", 0, LEAST).is(BAD, "mind", 0, MOST);
        b.is(1, "at", 0, 1).is(0, "at", 1, 1).is(0, "count", 8).is(3, "mind", 1, 0).is(1, "mind", 0, 1).is(2, "count", 8);
        edge.boat("9;p1").is(BAD, "mind", 0, 0);
    }

    // Which draw becomes this one: the step of the draw, turned round in numbers of 31 bits.
    private static int drawAhead(int of) {
        int turned = 1;
        for (int k = 0; k < 6; k++) {
            turned *= 2 - 1103515245 * turned;
        }
        return (of - 12345) * turned & MOST;
    }

    // Sayings of 10 of juice each; the one that is said has 8 behind it, the others have 11.
    private void draws(int sayings, int draw, int said) {
        Boat b = edge.boat("60;p3,p4");
        for (int s = 0; s < sayings; s++) {
            b.does("saying", 10, 1);
        }
        b.does("seed", drawAhead(draw)).is(0, "drift", 1).is(draw, "seed", 0).is(said < sayings ? 55 : 60, "ice", 0);
        for (int s = 0; s < sayings; s++) {
            b.is(s == said ? 8 : 11, "at", s, 0);
        }
    }

    private void drawn() {
        edge.terms("the SAYING that it by 65536, left over by how many there are and 1 more, is, is SAID "
            + "(nothing, if it is how many there are).");
        draws(2, 0, 0);
        draws(2, 65535, 0);
        draws(2, 65536, 1);
        draws(2, 131071, 1);
        draws(2, 131072, 2);
        draws(2, 196607, 2);
        draws(2, 196608, 0);
        draws(2, MOST, 1);
        draws(2, MOST - 65535, 1);
        draws(2, MOST - 65536, 0);
        draws(0, 65536, 0);
        draws(1, 65536, 1);
        draws(1, 131072, 0);
        draws(5, 4 * 65536, 4);
        draws(5, 5 * 65536, 5);
        draws(5, 6 * 65536, 0);
    }

    private void drawnLowestBits() {
        edge.terms("DRIFT by a seed: THE DRAW is a number of 31 bits (1 at first); in each MINUTE of a DRIFT it becomes "
            + "the lowest 31 bits of itself times 1103515245 and 12345 more:");
        edge.boat().does("drift", 1).is(1103527590, "seed", 0).does("drift", 1).is(12345, "seed", 1);
        // 1103515245 less than 2 to the 31 and 12345 more; twice 1103515245 is 59546842 above 2 to the 31.
        edge.boat().does("seed", MOST).does("drift", 1).is(1043980748, "seed", 2).does("drift", 1).is(59546842 + 12345, "seed", 3);
        // Three times: 3310545735, of which bit 31 is lost.
        Boat b = edge.boat().does("seed", 3).does("drift", 1).is((int) (3310545735L + 12345 - (1L << 31)), "seed", 1);
        b.does("drift", 2).is(377401575, "seed", 1);
        edge.boat().does("say", NONE).is(1, "seed", 1);
    }

    private void drift() {
        edge.promise(16, "A DRIFT of n MINUTES (1 .. 40; each by itself may be UNDONE): ahead of which CELL THE BOAT is. BAD;");
        Boat b = edge.boat("0.0.0;p1");
        b.is(BAD, "drift", 0).is(BAD, "drift", 41).is(BAD, "drift", -1).is(BAD, "drift", LEAST).is(BAD, "drift", MOST);
        b.is(0, "count", 4).is(1, "drift", 1).is(1, "count", 4).is(1, "count", 8).is(3, "drift", 40).is(41, "count", 4);
        b.is(8, "count", 8).is(7, "undo").is(40, "count", 4);
        Boat each = edge.boat("0.0.0;p1").is(3, "drift", 3).is(3, "count", 8);
        each.is(2, "undo").is(2, "count", 3).is(377401575, "seed", 9).is(1, "undo").is(1, "count", 3).is(1103527590, "seed", 9);
        each.is(0, "undo").is(0, "count", 3).is(1, "seed", 9);
    }

    private void driftFull() {
        edge.promise(16, "FULL: likewise.");
        Boat b = at(six("60"), 9960).is(FULL, "drift", 40).is(9960, "count", 4).does("drift", 39).is(9999, "count", 4);
        b.is(FULL, "drift", 1).is(FULL, "drift", 40).is(BAD, "drift", 41).is(BAD, "drift", 0).is(9999, "count", 4);
        at(six("60"), 9959).does("drift", 40).is(9999, "count", 4).is(FULL, "drift", 1);
        at(six("60"), 9998).is(FULL, "drift", 2).is(9998, "count", 4).does("drift", 1).is(9999, "count", 4);
    }

    private void undone() {
        edge.terms("UNDONE: the latest MINUTE, THAWED, MIND is as it had not been (8 are known, older ones lost):");
        Boat b = six("6.9").does("say", 0).does("thaw", 1, 5).does("mind", 1, 0);
        b.is(3, "at", 0, 1).is(2, "undo").is(1, "at", 0, 1).is(4, "ice", 1).is(1, "undo").is(9, "ice", 1).is(1, "count", 3);
        b.is(0, "undo").is(0, "count", 3).is(6, "ice", 0).is(9, "at", 0, 0).is(0, "count", 4).is(NONE, "undo");
    }

    private void undoneLost() {
        String zeros = "0.0.0.0.0.0.0.0.0.0.0.0;p1";
        for (int deeds = 7; deeds <= 10; deeds++) {
            Boat b = edge.boat(zeros);
            for (int k = 1; k <= deeds; k++) {
                b.is(k, "say", NONE).is(Math.min(8, k), "count", 8);
            }
            int known = Math.min(8, deeds);
            for (int k = 1; k <= known; k++) {
                b.is(known - k, "undo").is(deeds - k, "count", 3);
            }
            b.is(NONE, "undo").is(deeds - known, "count", 3);
        }
        Boat again = edge.boat(zeros).does("drift", 8).is(7, "undo").is(6, "undo").is(5, "undo").is(10, "drift", 5);
        for (int left = 7; left >= 0; left--) {
            again.is(left, "undo").is(left + 2, "count", 3);
        }
        again.is(NONE, "undo");
        Boat mixed = six("60").does("mind", 0, 0).does("thaw", 0, 3).does("drift", 7).is(8, "count", 8);
        for (int left = 7; left >= 0; left--) {
            mixed.is(left, "undo");
        }
        mixed.is(60, "ice", 0).is(0, "at", 0, 1).is(NONE, "undo");
    }

    private void undoneAsAhead() {
        edge.terms("ICE, where THE BOAT is, JUICE, who is FOR what, the MINUTE, THE DRAW are as ahead of it, "
            + "whatever was told since;");
        String[] deeds = {"say", "thaw", "mind", "drift"};
        long[][] with = {{0}, {0, 2}, {1, 0}, {1}};
        for (int k = 0; k < deeds.length; k++) {
            Boat b = six("6.9").does("seed", 77).does(deeds[k], with[k]).does("seed", 5).does("frost", 9).types("4;p");
            b.does("sheet", 0, 0, 3).is(0, "undo").is(77, "seed", 1).is(6, "ice", 0).is(0, "count", 3).is(9, "at", 0, 0);
            // FROST, THE TAPE, SHEETS are not among these.
            b.is(1, "at", 0, 1).is(0, "count", 4).is(9, "count", 5).is(4, "type", '7').is(3, "drop", 0);
        }
        six("6.9").does("say", 0).does("seed", 5).does("say", 0).is(1, "undo").is(5, "seed", 6).is(0, "undo").is(1, "seed", 1);
    }

    private void nothingToBeUndone() {
        edge.terms("A CANAL, a new CELL, PERSON, SAYING leave nothing to be UNDONE.");
        six("6").does("say", 0).types("4;p1").is(1, "canal").is(0, "count", 8).is(NONE, "undo");
        six("6").does("say", 0).is(1, "cell", 5).is(0, "count", 8).is(NONE, "undo");
        six("6").does("say", 0).is(2, "person", 0, 5).is(0, "count", 8).is(NONE, "undo");
        six("6").does("say", 0).is(1, "saying", 5, 0).is(0, "count", 8).is(NONE, "undo");
        Boat refused = six("6").does("say", 0).is(-20, "canal").is(BAD, "cell", 61).is(BAD, "person", 5, 1);
        refused.is(BAD, "saying", 21, 0).is(1, "count", 8).is(0, "undo").is(6, "ice", 0);
        Boat full = edge.boat("1.1.1.1.1.1.1.1.1.1.1.1;p1,p1,p1,p1,p1,p1;1,1,1,1,1").does("thaw", 11, 1);
        full.is(FULL, "cell", 1).is(FULL, "person", 0, 1).is(FULL, "saying", 1, 0).is(1, "count", 8).is(0, "undo");
        six("6").does("say", 0).does("cell", 5).does("say", NONE).is(0, "undo").is(1, "count", 4).is(NONE, "undo");
    }

    private void undo() {
        edge.promise(17, "UNDONE: how many more may be. NONE: none is known.");
        edge.boat().is(NONE, "undo").does("drift", 2).is(1, "undo").is(0, "undo").is(NONE, "undo").is(NONE, "undo");
        edge.boat().does("drift", 40).is(7, "undo");
        six("6").does("thaw", 0, 6).is(NOT, "thaw", 0, 1).is(BAD, "say", 1).is(BAD, "mind", 2, 0).is(0, "undo").is(NONE, "undo");
    }

    private void seed() {
        edge.promise(18, "THE DRAW becomes v: what it was. BAD: below 0.");
        Boat b = edge.boat().is(BAD, "seed", -1).is(BAD, "seed", LEAST).is(1, "seed", 0).is(0, "seed", MOST);
        b.is(BAD, "seed", -1).is(MOST, "seed", 1).is(1, "seed", 1).is(0, "count", 8);
    }
}
