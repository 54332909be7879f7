/** The edges of what is foretold of people and juice: promises 24, 25, 27, 28, 30 to 33, and 'Terms'. */
final class EdgeCrews {
    private static final int BAD = Edge.BAD, NONE = Edge.NONE, LEAST = Edge.LEAST, MOST = Edge.MOST;
    private final Edge edge;

    EdgeCrews(Edge edge) {
        this.edge = edge;
    }

    void run() {
        crewMost();
        crewLimits();
        mindsMost();
        mindsLimits();
        swayFewest();
        swayLimits();
        twoBoats();
        boatsLimits();
        enoughLeast();
        enoughLimits();
        sickLikely();
        sickLimits();
        image();
        imageStands();
        restore();
    }

    private void crewMost() {
        edge.terms("CREW of k (1 .. 6) for a SAYING: which k PEOPLE (all others being ashore: they ROCK nothing, are on no "
            + "side) ROCK most by it, of like ones the least set: by how much; which; none: there are not so many.");
        // The two for it are 3 each; with the one against it, either will do.
        Boat b = edge.boat("60;p3,p3,p9;8:01,0:01");
        b.is(0, "crew", 0, 1, 0).is(1, "crew", 0, 1, 1).is(6, "crew", 0, 2, 0).is(5, "crew", 0, 2, 1);
        b.is(12, "crew", 0, 3, 0).is(7, "crew", 0, 3, 1).is(NONE, "crew", 0, 4, 0).is(NONE, "crew", 0, 4, 1);
        b.is(0, "crew", 1, 2, 0).is(3, "crew", 1, 2, 1);
        // The stubborn one is alone for it once the loud one is ashore: 12 against 9.
        edge.boat("60;s4,l1,p9;8:01").is(18, "crew", 0, 2, 0).is(5, "crew", 0, 2, 1).is(18, "crew", 0, 3, 0);
        edge.boat("60;p9,s4,p9,s4;8:01").is(24, "crew", 0, 2, 0).is(10, "crew", 0, 2, 1);
        // In a minute of an odd number the child rocks by less.
        edge.boat("60;p9,p5,c4;8:0").does("say", NONE).is(10, "crew", 0, 2, 0).is(3, "crew", 0, 2, 1);
        edge.boat("60;p9,p5,c4;8:0").is(14, "crew", 0, 2, 0).is(5, "crew", 0, 2, 1);
    }

    private void crewLimits() {
        edge.promise(24, "CREW: by how much (what 0), which (1); NONE. BAD.");
        Boat six = edge.boat("60;p1,p1,p1,p1,p1,p1;8:012");
        six.is(6, "crew", 0, 6, 0).is(63, "crew", 0, 6, 1).is(0, "crew", 0, 1, 0).is(1, "crew", 0, 1, 1);
        six.is(4, "crew", 0, 5, 0).is(31, "crew", 0, 5, 1).is(BAD, "crew", 0, 7, 0).is(BAD, "crew", 0, 0, 0);
        Boat five = edge.boat("60;p1,p1,p1,p1,p1;8:012").is(NONE, "crew", 0, 6, 0).is(31, "crew", 0, 5, 1).is(BAD, "crew", 0, 7, 0);
        five.is(BAD, "crew", 0, 0, 1).is(BAD, "crew", 0, -1, 0).is(BAD, "crew", 0, LEAST, 0).is(BAD, "crew", 0, MOST, 0);
        five.is(BAD, "crew", 1, 1, 0).is(BAD, "crew", -1, 1, 0).is(BAD, "crew", LEAST, 1, 0).is(BAD, "crew", MOST, 1, 0);
        five.is(BAD, "crew", 0, 1, 2).is(BAD, "crew", 0, 1, -1).is(BAD, "crew", 0, 6, 2).is(BAD, "crew", 1, 6, 0);
        edge.boat().does("saying", 9, 0).is(NONE, "crew", 0, 1, 0).is(NONE, "crew", 0, 6, 1).is(BAD, "crew", 0, 7, 0);
    }

    private void mindsMost() {
        edge.terms("MINDS for a SAYING: who should be of the other mind so that it ROCKS most, of like ones the first; by how "
            + "much then; none: by nobody more than now.");
        Boat b = edge.boat("60;p3,p4,p5;8,8:0,8:2,0");
        b.is(2, "minds", 0, 0).is(10, "minds", 0, 1).is(1, "minds", 1, 0).is(10, "minds", 1, 1);
        b.is(NONE, "minds", 2, 0).is(NONE, "minds", 2, 1).is(NONE, "minds", 3, 0).is(NONE, "minds", 3, 1);
        edge.boat("60;p4,p4;8").is(0, "minds", 0, 0).is(8, "minds", 0, 1);
        // 6 now, and 6 by either of the others, too: by nobody more.
        edge.boat("60;p3,p3,p3;8:0").is(NONE, "minds", 0, 0).is(NONE, "minds", 0, 1);
        edge.boat("60;p1,p1,p1,p1,p1,p9;1").is(5, "minds", 0, 0).is(10, "minds", 0, 1);
        edge.boat().does("saying", 9, 0).is(NONE, "minds", 0, 0);
    }

    private void mindsLimits() {
        edge.promise(25, "MINDS: who (what 0), by how much (1); NONE. BAD.");
        Boat b = edge.boat("60;p4,p4;8,8:0").is(0, "minds", 0, 0).is(8, "minds", 0, 1).is(NONE, "minds", 1, 0).is(NONE, "minds", 1, 1);
        b.is(BAD, "minds", 2, 0).is(BAD, "minds", -1, 0).is(BAD, "minds", LEAST, 0).is(BAD, "minds", MOST, 0);
        b.is(BAD, "minds", 0, 2).is(BAD, "minds", 0, -1).is(BAD, "minds", 1, 2).is(BAD, "minds", 1, LEAST).is(BAD, "minds", 1, MOST);
    }

    private void swayFewest() {
        edge.terms("SWAY for a SAYING, r (1 .. 200): the fewest PEOPLE who should be of the other mind so that it ROCKS by r or "
            + "more, of like ones the least set: how many; which; none.");
        Boat b = edge.boat("60;p3,p4,p5;8,0:0,8:0");
        int[][] dues = {{1, 1}, {6, 1}, {7, 2}, {8, 2}, {9, 4}, {10, 4}};
        for (int[] of : dues) {
            b.is(1, "sway", 0, of[0], 0).is(of[1], "sway", 0, of[0], 1);
        }
        b.is(NONE, "sway", 0, 11, 0).is(NONE, "sway", 0, 11, 1).is(NONE, "sway", 1, 1, 0).is(NONE, "sway", 1, 1, 1);
        b.is(0, "sway", 2, 6, 0).is(0, "sway", 2, 6, 1).is(1, "sway", 2, 7, 0).is(2, "sway", 2, 7, 1);
        // The one of 9, or the three of 1: the fewest count first, although their set is greater.
        edge.boat("60;p1,p1,p1,p9;8:0123").is(1, "sway", 0, 6, 0).is(8, "sway", 0, 6, 1);
        edge.boat("60;p2,p2,p2,p2;8").is(1, "sway", 0, 4, 0).is(1, "sway", 0, 4, 1).is(2, "sway", 0, 5, 0).is(3, "sway", 0, 8, 1);
        edge.boat("60;l9,l9,l9,l9,l9,l9;20").is(3, "sway", 0, 84, 0).is(7, "sway", 0, 84, 1).is(NONE, "sway", 0, 85, 0);
        edge.boat().does("saying", 9, 0).is(NONE, "sway", 0, 1, 0);
    }

    private void swayLimits() {
        edge.promise(27, "SWAY: how many (what 0), which (1); NONE. BAD.");
        Boat b = edge.boat("60;p4,p4;8:0").is(0, "sway", 0, 1, 0).is(0, "sway", 0, 1, 1).is(NONE, "sway", 0, 200, 0).is(NONE, "sway", 0, 200, 1);
        b.is(BAD, "sway", 0, 0, 0).is(BAD, "sway", 0, 201, 0).is(BAD, "sway", 0, -1, 0).is(BAD, "sway", 0, LEAST, 0).is(BAD, "sway", 0, MOST, 0);
        b.is(BAD, "sway", 1, 1, 0).is(BAD, "sway", -1, 1, 0).is(BAD, "sway", LEAST, 1, 0).is(BAD, "sway", MOST, 1, 0);
        b.is(BAD, "sway", 0, 1, 2).is(BAD, "sway", 0, 1, -1).is(BAD, "sway", 0, 200, 2).is(BAD, "sway", 0, 200, LEAST).is(BAD, "sway", 0, 200, MOST);
    }

    private void twoBoats() {
        edge.terms("TWO BOATS: PEOPLE parted into those who stay (a set) and those in another boat, so that the lesser of by how "
            + "much the SAYING that ROCKS most does so in either boat (those of the other one ROCK nothing, are on no side) is "
            + "greatest, of like ones the least set: which; how much.");
        // 3 with 5 and 4 with 6, or 3 with 6 and 4 with 5: by 6 and 8.
        edge.boat("9;p3,p4,p5,p6;8:01,8:0").is(5, "boats", 0).is(6, "boats", 1);
        // Another saying in either boat: 3 with 4 by the first, 5 with 6 by the second.
        edge.boat("9;p3,p4,p5,p6;8:0,8:2").is(3, "boats", 0).is(6, "boats", 1);
        // The stubborn one is alone for it once the other one has left: 10 against 9.
        edge.boat("9;s3,p9,p9,p9;8:01").is(5, "boats", 0).is(18, "boats", 1);
        edge.boat("9;p3,p4;8:0").is(0, "boats", 0).is(0, "boats", 1);
        edge.boat("9;p3,p4,p5,p6;8,8,8,8:0,8:2").is(3, "boats", 0).is(6, "boats", 1);
        edge.boat("9;p3,p4,p5,p6").is(0, "boats", 0).is(0, "boats", 1);
        edge.boat("9;p3,p4,p5,p6;0:02").is(0, "boats", 0).is(0, "boats", 1);
        edge.boat("9;p1,p9,p1,p1,p9,p9;8:145").is(3, "boats", 0).is(2, "boats", 1);
    }

    private void boatsLimits() {
        edge.promise(28, "TWO BOATS: which (what 0), how much (1). BAD.");
        edge.boat().is(0, "boats", 0).is(0, "boats", 1).is(BAD, "boats", 2).is(BAD, "boats", -1).is(BAD, "boats", LEAST).is(BAD, "boats", MOST);
    }

    private void enoughLeast() {
        edge.terms("ENOUGH: the least JUICE (0 .. 20) a SAYING would have to have now so that the CELL ahead has no ICE behind a "
            + "MINUTE in which it is SAID; none (THROUGH, too).");
        // Somebody loud of 3 against 9: by 6 with any juice, by 2 more for each 4 of it, 16 at most.
        int[][] dues = {{0, 0}, {1, 1}, {6, 1}, {7, 4}, {8, 4}, {9, 8}, {15, 20}, {16, 20}, {17, NONE}, {60, NONE}};
        for (int[] of : dues) {
            edge.boat(of[0] + ";p9,l3;5:1,0:1").is(of[1], "enough", 0).is(of[1], "enough", 1);
        }
        edge.boat("1;p9,d3;0:1").is(6, "enough", 0);
        edge.boat("1;p9,d3;0").is(NONE, "enough", 0);
        edge.boat("6;p9,c3;5:1").is(1, "enough", 0).does("say", NONE).is(NONE, "enough", 0).does("thaw", 0, 1).is(6, "enough", 0);
        edge.boat("0;p9,l3;5:1").is(0, "enough", 0).does("say", NONE).is(NONE, "enough", 0);
        edge.boat().does("saying", 9, 0).is(NONE, "enough", 0).does("cell", 0).is(0, "enough", 0);
    }

    private void enoughLimits() {
        edge.promise(30, "ENOUGH; NONE. BAD.");
        Boat b = edge.boat("6;p9,l3;5:1,5").is(1, "enough", 0).is(NONE, "enough", 1).is(BAD, "enough", 2).is(BAD, "enough", -1);
        b.is(BAD, "enough", LEAST).is(BAD, "enough", MOST);
        edge.boat().is(BAD, "enough", 0);
    }

    private void fraction(Boat b, int c, int above, int below) {
        b.is(above, "sick", 0, c, 0).is(below, "sick", 0, c, 1);
    }

    private void sickLikely() {
        edge.terms("SICK by c of 10 (0 .. 10): each PERSON is sick in this MINUTE by c of 10, apart (ROCKS nothing, is on no "
            + "side): how likely the CELL ahead has no ICE behind a MINUTE in which a SAYING is SAID: a fraction in lowest terms "
            + "(0: THROUGH).");
        // One of three well on either side will do: 1 less c to the third of 1000, by itself.
        int[][] dues = {{0, 1, 1}, {1, 998001, 1000000}, {2, 15376, 15625}, {5, 49, 64}, {9, 73441, 1000000}, {10, 0, 1}};
        for (int[] of : dues) {
            fraction(edge.boat("2;p1,p1,p1,p1,p1,p1;8:012"), of[0], of[1], of[2]);
        }
        fraction(edge.boat("3;p1,p1,p1,p1,p1,p1;8:012"), 5, 1, 4);
        fraction(edge.boat("7;p1,p1,p1,p1,p1,p1;8:012"), 0, 0, 1);
        fraction(edge.boat("0;p1,p1;8:0"), 10, 1, 1);
        fraction(edge.boat("0;p1,p1;0:0"), 3, 1, 1);
        fraction(edge.boat("1;p1,p1;0:0"), 0, 0, 1);
        // The stubborn one and the one of 9 must be well: with the loud one 9 against 9, without it 12 against 9.
        fraction(edge.boat("18;s4,l1,p9;8:01"), 1, 81, 100);
        fraction(edge.boat("6;p3,p4;9:0"), 4, 9, 25);
        fraction(edge.boat("0;p1,p1;8:0").does("say", 0), 0, 0, 1);
        fraction(edge.boat().does("saying", 9, 0), 5, 0, 1);
        fraction(edge.boat().does("saying", 9, 0).does("cell", 0), 5, 1, 1);
        fraction(edge.boat().does("saying", 9, 0).does("cell", 1), 0, 0, 1);
    }

    private void sickLimits() {
        edge.promise(31, "SICK: above (what 0), below (1). BAD.");
        Boat b = edge.boat("6;p3,p4;9:0").is(1, "sick", 0, 0, 0).is(1, "sick", 0, 0, 1).is(0, "sick", 0, 10, 0).is(1, "sick", 0, 10, 1);
        b.is(BAD, "sick", 0, -1, 0).is(BAD, "sick", 0, 11, 0).is(BAD, "sick", 0, LEAST, 0).is(BAD, "sick", 0, MOST, 0);
        b.is(BAD, "sick", 1, 0, 0).is(BAD, "sick", -1, 0, 0).is(BAD, "sick", LEAST, 0, 0).is(BAD, "sick", MOST, 0, 0);
        b.is(BAD, "sick", 0, 0, 2).is(BAD, "sick", 0, 0, -1).is(BAD, "sick", 0, 0, LEAST).is(BAD, "sick", 0, 0, MOST);
        edge.boat().is(BAD, "sick", 0, 0, 0);
    }

    private void image() {
        edge.promise(32, "All but SHEETS, THE TAPE is kept as an IMAGE: 1.");
        Boat b = edge.boat("6.9;p3,p4;9:0").does("say", 0).is(1, "image").is(1, "image");
        b.does("sheet", 0, 2, 3).does("item", 0, 2, 0, 0).types("7;").is(1, "restore").is(3, "type", 'p').is(4, "type", '8');
        b.is(3, "drop", 0).is(1, "canal").is(7, "ice", 0).is(1, "restore").is(9, "ice", 1);
        // An image of nothing is one, too.
        edge.boat().is(1, "image").does("cell", 5).does("person", 0, 1).does("saying", 3, 0).does("drift", 3).does("frost", 4)
            .is(1, "restore").is(0, "count", 0).is(0, "count", 1).is(0, "count", 2).is(0, "count", 4).is(1, "count", 5)
            .is(0, "count", 8).is(1, "seed", 1);
        edge.same("the same image again", Probe.of(Worlds.imaged(edge).is(1, "image")), Probe.of(Worlds.imaged(edge)));
    }

    private void imageStands() {
        // What is done behind it does not reach the image, not even behind a restore.
        Boat b = edge.boat("6.9;p3,p4;9:0").does("image");
        for (int again = 0; again < 3; again++) {
            b.does("say", 0).does("thaw", 1, 3).does("mind", 1, 0).does("seed", 7).does("frost", 3).does("person", 2, 2);
            b.is(1, "restore").is(6, "ice", 0).is(9, "ice", 1).is(1, "at", 0, 1).is(9, "at", 0, 0).is(1, "count", 5);
            b.is(2, "count", 1).is(0, "count", 3).is(0, "count", 4).is(0, "count", 8).is(1, "seed", 1);
        }
        // The latest one counts.
        b.does("thaw", 0, 1).does("image").does("thaw", 0, 1).is(1, "restore").is(5, "ice", 0).is(1, "count", 8);
        // What may be undone is kept with it, the lost ones stay lost.
        Boat known = edge.boat("0.0.0.0.0.0.0.0.0.0.0.0;p1").does("drift", 9).does("image").does("drift", 3).is(1, "restore");
        for (int left = 7; left >= 0; left--) {
            known.is(left, "undo").is(left + 1, "count", 3);
        }
        known.is(NONE, "undo").is(1, "restore").is(8, "count", 8).is(9, "count", 3);
    }

    private void restore() {
        edge.promise(33, "All is as it was then: 1. NONE: there is none.");
        edge.boat().is(NONE, "restore").is(1, "image").is(1, "restore").is(1, "restore");
        edge.boat("6;p1").is(NONE, "restore").is(6, "ice", 0);
        String was = Probe.of(Worlds.tapeless(edge).does("image"));
        Boat other = Worlds.tapeless(edge).does("image").types("0.60;c1,d2,s3;7:012,8").does("canal").does("frost", 0).does("seed", MOST).does("drift", 9);
        edge.same("all as it was", Probe.of(other.is(1, "restore")), was);
    }
}
