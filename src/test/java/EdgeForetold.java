/** The edges of what is foretold by minutes: promises 19 to 23, 26, 29, and what 'Terms' says of them. */
final class EdgeForetold {
    private static final int BAD = Edge.BAD, NONE = Edge.NONE, LEAST = Edge.LEAST, MOST = Edge.MOST;
    // Each of these three is said when it has 20 of juice, and has it again two minutes later: for ever by 12.
    private static final String BY_TWELVE = ";l1,p9;20:0,20:0,20:0";
    private final Edge edge;

    EdgeForetold(Edge edge) {
        this.edge = edge;
    }

    void run() {
        nothingIsChanged();
        rock();
        next();
        greedy();
        greedyAsItIsThen();
        through();
        planFarthest();
        planOrder();
        planLimits();
        onceFarthest();
        onceOrder();
        onceLimits();
        ringCompares();
        ringLimits();
    }

    private void nothingIsChanged() {
        edge.terms("==== 2 FORETOLD from now (nothing is changed).");
        String was = Probe.of(Worlds.small(edge));
        for (int what = 0; what < 2; what++) {
            Boat b = Worlds.small(edge);
            for (int s = 0; s < 2; s++) {
                b.does("rock", s).does("crew", s, 2, what).does("sway", s, 1, what).does("sick", s, 3, what);
                b.ask("minds", s, what);
                b.ask("enough", s);
            }
            b.does("next", what).does("greedy", 99, what).does("plan", 4, what - 1).does("once", what - 1);
            b.does("boats", what).does("ring", what);
            b.ask("through");
            edge.same("all that can be seen", Probe.of(b), was);
        }
    }

    private void rock() {
        edge.terms("ROCK of a SAYING now.");
        edge.boat("60;p3,c4;9:0").is(6, "rock", 0).does("mind", 0, 0).is(0, "rock", 0).does("mind", 1, 0).is(6, "rock", 0);
        edge.boat("60;p9,c4;9:0").is(14, "rock", 0).does("say", NONE).is(8, "rock", 0);
        edge.promise(19, "ROCK. BAD.");
        Boat b = edge.boat("60;p3,p4;9,9:0").is(0, "rock", 0).is(6, "rock", 1).is(BAD, "rock", 2).is(BAD, "rock", -1);
        b.is(BAD, "rock", NONE).is(BAD, "rock", LEAST).is(BAD, "rock", MOST);
        edge.boat("60;p3").is(BAD, "rock", 0);
    }

    private void next() {
        edge.terms("NEXT: the SAYING that ROCKS most now, of like ones the first; by how much; none: there are none.");
        edge.boat("9;p3,p4,p5;5:0,5:2,5:01,5:1").is(1, "next", 0).is(10, "next", 1);
        edge.boat("9;p3,p4,p5;5,5,5,5,5:0").is(4, "next", 0).is(6, "next", 1);
        edge.boat("9;p3;5,5:0").is(0, "next", 0).is(0, "next", 1);
        edge.boat("9;p3,p4;0:0,1:0").is(1, "next", 0).is(6, "next", 1);
        edge.boat("9;p3,p4").is(NONE, "next", 0).is(NONE, "next", 1);
        edge.promise(20, "NEXT: the SAYING (what 0), by how much (1); NONE. BAD.");
        Boat b = edge.boat("9;p3,p4;5,5:0").is(1, "next", 0).is(6, "next", 1).is(BAD, "next", 2).is(BAD, "next", -1);
        b.is(BAD, "next", LEAST).is(BAD, "next", MOST);
        edge.boat().is(NONE, "next", 0).is(NONE, "next", 1).is(BAD, "next", 2).is(BAD, "next", -1);
    }

    private void greedy() {
        edge.promise(21, "GREEDY: ahead of which CELL (what 0), ICE (1). BAD.");
        Boat b = edge.boat("6.9;p3,p4;9:0").is(0, "greedy", 0, 0).is(6, "greedy", 0, 1).is(1, "greedy", 1, 0).is(9, "greedy", 1, 1);
        b.is(BAD, "greedy", -1, 0).is(BAD, "greedy", 100, 0).is(BAD, "greedy", LEAST, 1).is(BAD, "greedy", MOST, 1);
        b.is(BAD, "greedy", 0, 2).is(BAD, "greedy", 0, -1).is(BAD, "greedy", 99, LEAST).is(BAD, "greedy", 99, MOST);
        b.is(2, "greedy", 99, 0).is(0, "greedy", 99, 1);
    }

    private void greedyAsItIsThen() {
        edge.terms("GREEDY for n MINUTES (0 .. 99): in each of them the NEXT one is SAID, as it is then (nothing, if there "
            + "are none): ahead of which CELL THE BOAT is behind them; ICE of the CELL ahead then (0: THROUGH).");
        // Juice 20 19, 18 20, 19 18, 17 19, 15 20, 16 18: the second one is said in the second and the fifth minute.
        Boat b = edge.boat("60;l1,p9;20:0,19:0").does("frost", 0);
        int[] ice = {60, 48, 36, 26, 16, 4, 0};
        for (int n = 0; n < ice.length; n++) {
            b.is(ice[n], "greedy", n, 1).is(n < 6 ? 0 : 1, "greedy", n, 0);
        }
        edge.boat("50;p3").is(50, "greedy", 0, 1).is(59, "greedy", 9, 1).is(60, "greedy", 10, 1).is(60, "greedy", 11, 1);
        edge.boat("0.0;p3").is(2, "greedy", 2, 0).is(0, "greedy", 2, 1).is(2, "greedy", 99, 0).is(0, "greedy", 99, 1);
        edge.boat().is(0, "greedy", 0, 0).is(0, "greedy", 0, 1).is(0, "greedy", 99, 0).is(0, "greedy", 99, 1);
        // By 3 less a minute 60 of ice take 17 minutes, 49 to 51 take 14, 52 to 54 take 15.
        Boat last = edge.boat("60.60.60.60.60.51" + BY_TWELVE).does("frost", 9).is(5, "greedy", 98, 0).is(12, "greedy", 98, 1);
        last.is(6, "greedy", 99, 0).is(0, "greedy", 99, 1);
    }

    private void through() {
        edge.terms("THROUGH: the first of 0 to 99 such MINUTES behind which THE BOAT is THROUGH; none.");
        edge.boat("60.60.60.60.60.51" + BY_TWELVE).does("frost", 9).is(99, "through");
        edge.boat("60.60.60.60.60.52" + BY_TWELVE).does("frost", 9).is(NONE, "through").does("say", 0).is(99, "through");
        edge.promise(22, "THROUGH; NONE.");
        edge.boat().is(0, "through").does("cell", 0).is(1, "through").does("say", NONE).is(0, "through");
        edge.boat("6;p3,p4;9:0").is(1, "through").does("mind", 0, 0).is(NONE, "through");
        edge.boat("0.0.0.0.0.0.0.0.0.0.0.0;p1").is(12, "through").does("say", NONE).is(11, "through");
        edge.boat("7;p1").is(NONE, "through").does("thaw", 0, 7).is(1, "through");
    }

    private void planFarthest() {
        edge.terms("PLAN for n MINUTES (1 .. 4): which SAYINGS should be SAID in them, one behind the other (one may be more "
            + "than once), so that THE BOAT comes farthest, of like ones so that least ICE is ahead of it then, of these the "
            + "first (rising): how far; the SAYING in the k-th MINUTE (0 on); none: there are none.");
        // Farther with 60 of ice ahead, rather than not so far with 3.
        edge.boat("2.60;p1,p1;9,9:0").is(1, "plan", 1, -1).is(1, "plan", 1, 0);
        edge.boat("60;p1,p3,p9;9:0,9:1,9:0").is(0, "plan", 1, -1).is(1, "plan", 1, 0);
        edge.boat("60;p1,p3,p9;9:0,9:1,9:1").is(1, "plan", 1, 0);
        edge.boat("60;p3;9,9").is(0, "plan", 2, 0).is(0, "plan", 2, 1).is(0, "plan", 2, -1);
        edge.boat("0.0.0.0.0;p1;9").is(1, "plan", 1, -1).is(2, "plan", 2, -1).is(3, "plan", 3, -1).is(4, "plan", 4, -1);
        edge.boat().is(NONE, "plan", 1, -1).is(NONE, "plan", 4, 0).is(NONE, "plan", 1, 1);
        // Once all is through, every order is like the first one.
        edge.boat("0;p3,p4;9,9:0").is(1, "plan", 3, -1).is(0, "plan", 3, 0).is(0, "plan", 3, 2);
        edge.boat().does("saying", 3, 0).is(0, "plan", 4, -1).is(0, "plan", 4, 3).is(NONE, "plan", 4, 4);
    }

    private void planOrder() {
        // The first one has juice for one time, and then none for ever; the second one for four.
        orderOfPlan(edge.boat("60;p1,p1;1:0,9:0"), 0, 1, 1, 1);
        // 1 first, as 0 of juice 5 grows to 6 meanwhile, and the dull one rocks by it: less ice than 0 1, 0 0, 1 1.
        orderOfPlan(edge.boat("60;d9,p9,p1;5:0,9:2"), 1, 0);
        orderOfPlan(edge.boat("60;p1,p1;9:0,9:0"), 0, 0, 0, 0);
        orderOfPlan(edge.boat("60;p1,p1;9,9,9,9,9:0"), 4, 4, 4, 4);
        // In each minute one is said: it can't wait until the dull one has juice enough.
        Boat said = edge.boat("18;d9,p9;5:0").does("frost", 0).is(0, "plan", 2, -1).is(0, "plan", 1, -1);
        orderOfPlan(said, 0, 0);
        said.does("say", NONE).is(1, "plan", 1, -1);
        orderOfPlan(edge.boat("60;p1,p1;3:0,3:0"), 0, 0, 1, 1);
    }

    private void orderOfPlan(Boat b, int... order) {
        for (int k = 0; k < order.length; k++) {
            b.is(order[k], "plan", order.length, k);
        }
        b.is(NONE, "plan", order.length, order.length);
    }

    private void planLimits() {
        edge.promise(23, "PLAN: how far (k -1), the SAYING in the k-th MINUTE (NONE: not so many); NONE. BAD: k below -1, too.");
        Boat b = edge.boat("6.9;p3,p4;9:0").is(BAD, "plan", 0, 0).is(BAD, "plan", 5, 0).is(BAD, "plan", -1, 0);
        b.is(BAD, "plan", LEAST, -1).is(BAD, "plan", MOST, -1).is(BAD, "plan", 1, -2).is(BAD, "plan", 4, LEAST);
        for (int n = 1; n <= 4; n++) {
            b.is(n < 3 ? 1 : 2, "plan", n, -1).is(0, "plan", n, 0).is(0, "plan", n, n - 1);
            b.is(NONE, "plan", n, n).is(NONE, "plan", n, MOST);
        }
        Boat none = edge.boat("6;p3").is(NONE, "plan", 1, -1).is(NONE, "plan", 4, 3).is(NONE, "plan", 4, 4);
        none.is(BAD, "plan", 0, 0).is(BAD, "plan", 5, 0).is(BAD, "plan", 1, -2);
    }

    private void onceFarthest() {
        edge.terms("ONCE: the order of all SAYINGS, each SAID once, one behind the other, by which THE BOAT comes farthest, of "
            + "like ones so that least ICE is ahead of it then, of these the first (rising): how far; the SAYING in the k-th "
            + "place (0 on); none: there are none.");
        // 1 first: by 20, then by 2 through the next cell; 0 first: 10 less 2 and 1 more, then by 14.
        edge.boat("10.2;p1,c7,p9;9:0,6:1").is(2, "once", -1).is(1, "once", 0).is(0, "once", 1).is(NONE, "once", 2);
        // Farther with 60 ahead: 1 (by 2) in the first minute does it, behind the other one 2 and 1 of frost are left by 1.
        edge.boat("2.60;p1,p1;9,9:0").is(1, "once", -1).is(1, "once", 0).is(0, "once", 1);
        edge.boat().is(NONE, "once", -1).is(NONE, "once", 0);
    }

    private void onceOrder() {
        // 1 first: 60 less 20, then less 18; 0 first: less 18, then less 14 only, as the child is quiet.
        edge.boat("60;c7,p9,p9;9:1,6:0").is(0, "once", -1).is(1, "once", 0).is(0, "once", 1).is(NONE, "once", 2);
        edge.boat("60;p1,p1;9:0,9").does("frost", 0).is(0, "once", 0).is(1, "once", 1);
        // With frost, 60 can't grow in a minute in which nothing rocks: that one goes first.
        edge.boat("60;p1,p1;9:0,9").is(1, "once", 0).is(0, "once", 1);
        Boat like = edge.boat("60;p1,p1;5:0,5:0,5:0,5:0,5:0").is(0, "once", -1).is(NONE, "once", 5);
        for (int k = 0; k < 5; k++) {
            like.is(k, "once", k);
        }
        edge.boat("9;p1;4").is(0, "once", -1).is(0, "once", 0).is(NONE, "once", 1);
        edge.boat("0.0.0.0.0.0;p1;1,1,1,1,1").is(5, "once", -1);
    }

    private void onceLimits() {
        edge.promise(26, "ONCE: how far (k -1), the SAYING in the k-th place (NONE: not so many); NONE. BAD: k below -1.");
        Boat b = edge.boat("6.9;p3,p4;9:0,9").is(BAD, "once", -2).is(BAD, "once", LEAST).is(1, "once", -1);
        b.is(0, "once", 0).is(1, "once", 1).is(NONE, "once", 2).is(NONE, "once", MOST);
        edge.boat("6;p3").is(NONE, "once", -1).is(NONE, "once", 0).is(BAD, "once", -2);
    }

    private void ringCompares() {
        edge.terms("RING: by GREEDY MINUTES from now on the first one (1 .. 200) behind which where THE BOAT is, ICE of the "
            + "CELL ahead, JUICE of all, and whether the MINUTE is even, are as behind an earlier one (or as now): which; how "
            + "many lie between; none.");
        edge.boat().is(2, "ring", 0).is(2, "ring", 1);
        edge.boat("9;p1").does("frost", 0).is(2, "ring", 0).is(2, "ring", 1);
        // No ice at 0, at 1, through at 2: only behind 4 is all as behind 2.
        edge.boat("0.0;p1").is(4, "ring", 0).is(2, "ring", 1);
        // 57, 58, 59, 60: as behind 3.
        edge.boat("57;p1").is(5, "ring", 0).is(2, "ring", 1);
        // 4 1, 2 2, 0 3, 0 4 and on to 0 20 behind minute 19; all together are as many behind 3 as behind 1.
        edge.boat("0;p1;4,1").is(21, "ring", 0).is(2, "ring", 1);
        // Each one's juice by itself: 17, 18, 19, 20 (the first one, which is said: 5, 3, 1, 0), and as behind 3.
        for (int s = 0; s < 5; s++) {
            Boat b = edge.boat("0;p1");
            for (int other = 0; other < 5; other++) {
                b.does("saying", other != s ? 0 : s == 0 ? 5 : 17, 0);
            }
            b.is(5, "ring", 0).is(2, "ring", 1);
        }
        // Through behind 1: 18 20 20, then 19 18 20, 20 19 18, 18 20 19, and so on.
        edge.boat("12" + BY_TWELVE).is(8, "ring", 0).is(6, "ring", 1);
    }

    private void ringLimits() {
        // 17 minutes a cell of 60; 28 to 30 take 7, 31 takes 8; 6 behind the one in which it is through all is as then.
        String eleven = "60.60.60.60.60.60.60.60.60.60.60.";
        edge.boat(eleven + "30" + BY_TWELVE).does("frost", 9).is(200, "ring", 0).is(6, "ring", 1);
        edge.boat(eleven + "27" + BY_TWELVE).does("frost", 9).is(199, "ring", 0).is(6, "ring", 1);
        Boat beyond = edge.boat(eleven + "31" + BY_TWELVE).does("frost", 9).is(NONE, "ring", 0).is(NONE, "ring", 1);
        beyond.does("say", 0).is(200, "ring", 0).is(6, "ring", 1);

        edge.promise(29, "RING: which (what 0), how many (1); NONE. BAD.");
        edge.boat().is(2, "ring", 0).is(2, "ring", 1).is(BAD, "ring", 2).is(BAD, "ring", -1).is(BAD, "ring", LEAST).is(BAD, "ring", MOST);
        edge.boat(eleven + "31" + BY_TWELVE).does("frost", 9).is(NONE, "ring", 0).is(NONE, "ring", 1).is(BAD, "ring", 2).is(BAD, "ring", -1);
    }
}
