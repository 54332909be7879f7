/** The edges of cells, people and sayings: promises 1 to 9 and 12, and what 'Terms' says of them. */
final class EdgeCanal {
    private static final int BAD = Edge.BAD, FULL = Edge.FULL, NONE = Edge.NONE, NULL = Edge.NULL;
    private static final int LEAST = Edge.LEAST, MOST = Edge.MOST;
    private final Edge edge;

    EdgeCanal(Edge edge) {
        this.edge = edge;
    }

    void run() {
        newObject();
        cells();
        cellsFull();
        boatAhead();
        people();
        peopleFull();
        sayings();
        sayingsFull();
        sets();
        ice();
        of();
        at();
        rocks();
        frost();
        count();
        plain();
        loud();
        dull();
        stubborn();
        child();
    }

    private void newObject() {
        edge.promise(1, "No canal, nobody.");
        Boat b = edge.boat();
        for (int what = 0; what <= 8; what++) {
            b.is(what == 5 ? 1 : 0, "count", what);
        }
        b.is(BAD, "ice", 0).is(BAD, "of", 0, 0).is(BAD, "at", 0, 0).is(BAD, "rocks", 0, 0).is(BAD, "rock", 0);
        b.is(NONE, "undo").is(NONE, "restore").is(1, "seed", 1);
        for (int sheet = 0; sheet < 4; sheet++) {
            b.is(NULL, "drop", sheet);
        }
        edge.terms("It is MINUTE 0 at first.");
        edge.boat().is(0, "count", 4).is(0, "say", NONE).is(1, "count", 4);
        edge.terms("a number of 31 bits (1 at first)");
        edge.boat().is(1, "seed", 1);
    }

    private void cells() {
        edge.terms("==== 1 THE CANAL has CELLS 0 .. 11, as they come, of ICE (0 .. 60).");
        Boat b = edge.boat();
        for (int c = 0; c < 12; c++) {
            b.is(BAD, "ice", c).is(c, "cell", 60 - 5 * c).is(60 - 5 * c, "ice", c);
        }
        for (int c = 0; c < 12; c++) {
            b.is(60 - 5 * c, "ice", c);
        }
        b.is(BAD, "ice", 12).is(BAD, "ice", -1);

        edge.promise(2, "A CELL at the end: its number.");
        edge.boat("7;p1").is(1, "cell", 8).is(7, "ice", 0).is(8, "ice", 1).is(2, "cell", 9).is(9, "ice", 2);
    }

    private void cellsFull() {
        edge.promise(2, "BAD; FULL: 12.");
        Boat b = edge.boat().is(BAD, "cell", -1).is(BAD, "cell", 61).is(BAD, "cell", LEAST).is(BAD, "cell", MOST);
        b.is(0, "count", 0).is(0, "cell", 0).is(1, "cell", 60).is(2, "cell", 1).is(3, "cell", 59);
        for (int c = 4; c < 12; c++) {
            b.is(c, "cell", 7);
        }
        b.is(FULL, "cell", 7).is(FULL, "cell", 0).is(FULL, "cell", 60).is(12, "count", 0).is(7, "ice", 11);
        b.is(BAD, "cell", 61).is(BAD, "cell", -1);
        edge.boat("1.1.1.1.1.1.1.1.1.1.1.1;p1").is(FULL, "cell", 1);
        edge.boat("1.1.1.1.1.1.1.1.1.1.1;p1").is(11, "cell", 1).is(FULL, "cell", 1);
    }

    private void boatAhead() {
        edge.terms("THE BOAT is ahead of a CELL (0 at first; told as how many there are: it is THROUGH).");
        Boat b = edge.boat().is(0, "count", 3).is(0, "through");
        b.is(0, "cell", 0).is(0, "count", 3).is(1, "through").is(1, "say", NONE).is(1, "count", 3).is(0, "through");
        b.is(1, "cell", 7).is(1, "count", 3).is(7, "count", 6).is(NONE, "through");
        Boat full = edge.boat("0.0.0.0.0.0.0.0.0.0.0.0;p1");
        for (int c = 1; c <= 12; c++) {
            full.is(c, "say", NONE);
        }
        full.is(12, "count", 3).is(0, "through").is(12, "say", NONE).is(12, "count", 3).is(0, "count", 6);
    }

    private void people() {
        edge.terms("PEOPLE 0 .. 5, as they come, are of a KIND, have WEIGHT (1 .. 9).");
        Boat b = edge.boat();
        int[] kinds = {4, 3, 2, 1, 0, 4};
        int[] weights = {1, 9, 2, 8, 3, 7};
        for (int p = 0; p < 6; p++) {
            b.is(BAD, "of", p, 0).is(p, "person", kinds[p], weights[p]);
        }
        for (int p = 0; p < 6; p++) {
            b.is(kinds[p], "of", p, 0).is(weights[p], "of", p, 1);
        }
        b.is(BAD, "of", 6, 0);

        edge.promise(3, "A PERSON (AGAINST all SAYINGS): the number.");
        Boat some = edge.boat("9;p1;5:0,5,5:0,5,5:0");
        for (int p = 1; p < 6; p++) {
            some.is(p, "person", 0, 1).is(0, "of", p, 2);
        }
        some.is(1, "at", 0, 1).is(0, "at", 1, 1).is(1, "at", 4, 1).is(21, "of", 0, 2);
        // Who comes behind another canal is new, whatever the one of this number was for.
        some = edge.boat("9;p1,p1;5:01").types("9;p1;5:0").does("canal");
        some.is(1, "person", 0, 1).is(1, "at", 0, 1).is(0, "of", 1, 2);
    }

    private void peopleFull() {
        edge.promise(3, "BAD; FULL: 6.");
        Boat b = edge.boat();
        b.is(BAD, "person", -1, 1).is(BAD, "person", 5, 1).is(BAD, "person", 0, 0).is(BAD, "person", 0, 10);
        b.is(BAD, "person", LEAST, 1).is(BAD, "person", MOST, 1).is(BAD, "person", 0, LEAST).is(BAD, "person", 0, MOST);
        b.is(0, "count", 1).is(0, "person", 0, 1).is(1, "person", 4, 9).is(2, "person", 4, 1).is(3, "person", 0, 9);
        b.is(4, "person", 1, 2).is(5, "person", 2, 3).is(FULL, "person", 0, 1).is(FULL, "person", 4, 9);
        b.is(6, "count", 1).is(BAD, "person", 5, 1).is(BAD, "person", -1, 1).is(BAD, "person", 0, 0);
        b.is(BAD, "person", 0, 10);
        edge.boat("1;p1,p1,p1,p1,p1").is(5, "person", 0, 1).is(FULL, "person", 0, 1);
    }

    private void sayings() {
        edge.terms("SAYINGS 0 .. 4, as they come, have JUICE (0 .. 20), of each some are FOR it (a set of PEOPLE), "
            + "all others AGAINST.");
        Boat b = edge.boat("9;p1,p2,p4");
        int[] juice = {0, 20, 1, 19, 7};
        int[] fors = {0, 7, 1, 4, 5};
        for (int s = 0; s < 5; s++) {
            b.is(BAD, "at", s, 0).is(s, "saying", juice[s], fors[s]);
        }
        for (int s = 0; s < 5; s++) {
            b.is(juice[s], "at", s, 0).is(fors[s], "at", s, 1).is(fors[s], "at", s, 2).is(7 - fors[s], "at", s, 3);
        }
        b.is(BAD, "at", 5, 0);
        edge.promise(4, "A SAYING: its number.");
        edge.boat("9;p1;3:0").is(1, "saying", 4, 0).is(2, "saying", 5, 1).is(3, "at", 0, 0).is(4, "at", 1, 0);
    }

    private void sayingsFull() {
        edge.promise(4, "BAD (a set beyond PEOPLE, too); FULL: 5.");
        Boat b = edge.boat().is(BAD, "saying", 9, 1).is(BAD, "saying", 9, -1).is(0, "saying", 9, 0);
        b.is(0, "person", 0, 3).is(BAD, "saying", 9, 2).is(1, "saying", 9, 1);
        b.is(BAD, "saying", -1, 0).is(BAD, "saying", 21, 0).is(BAD, "saying", LEAST, 0).is(BAD, "saying", MOST, 0);
        b.is(BAD, "saying", 9, LEAST).is(BAD, "saying", 9, MOST).is(2, "count", 2);
        b.is(2, "saying", 0, 0).is(3, "saying", 20, 1).is(4, "saying", 1, 1).is(FULL, "saying", 1, 1);
        b.is(FULL, "saying", 0, 0).is(FULL, "saying", 20, 0).is(5, "count", 2);
        b.is(BAD, "saying", 21, 0).is(BAD, "saying", -1, 0).is(BAD, "saying", 1, 2).is(BAD, "saying", 1, -1);
        edge.boat("1;p1;1,1,1,1").is(4, "saying", 1, 0).is(FULL, "saying", 1, 0);
        edge.boat("1;p1,p1,p1,p1,p1").is(BAD, "saying", 1, 32).is(0, "saying", 1, 31);
        edge.boat("1;p1,p1,p1,p1,p1,p1").is(BAD, "saying", 1, 64).is(0, "saying", 1, 63).is(63, "at", 0, 1);
    }

    private void sets() {
        edge.terms("Sets are bits.");
        Boat b = edge.boat("9;p1,p1,p1,p1,p1,p1;5:0,5:1,5:024,5:5,5:012345");
        b.is(1, "at", 0, 1).is(2, "at", 1, 1).is(21, "at", 2, 1).is(32, "at", 3, 1).is(63, "at", 4, 1);
        b.is(21, "of", 0, 2).is(18, "of", 1, 2).is(20, "of", 2, 2).is(16, "of", 3, 2).is(24, "of", 5, 2);
    }

    private void ice() {
        edge.promise(5, "ICE of a CELL. BAD.");
        Boat b = edge.boat("7.60.0;p1").is(7, "ice", 0).is(60, "ice", 1).is(0, "ice", 2);
        b.is(BAD, "ice", 3).is(BAD, "ice", -1).is(BAD, "ice", LEAST).is(BAD, "ice", MOST);
    }

    private void of() {
        edge.promise(6, "Of a PERSON: 0 KIND, 1 WEIGHT, 2 SAYINGS that it is FOR (a set). BAD.");
        Boat b = edge.boat("9;c9,s1;5:1,5,5,5,5:01");
        b.is(4, "of", 0, 0).is(9, "of", 0, 1).is(16, "of", 0, 2).is(3, "of", 1, 0).is(1, "of", 1, 1).is(17, "of", 1, 2);
        b.is(BAD, "of", 2, 0).is(BAD, "of", -1, 0).is(BAD, "of", LEAST, 2).is(BAD, "of", MOST, 2);
        b.is(BAD, "of", 0, 3).is(BAD, "of", 0, -1).is(BAD, "of", 0, LEAST).is(BAD, "of", 0, MOST);
        edge.boat("9;p1").is(0, "of", 0, 2);
    }

    private void at() {
        edge.promise(7, "Of a SAYING: 0 JUICE, 1 who is FOR it (a set), 2 by how much all FOR ROCK now, "
            + "3 by how much all AGAINST. BAD.");
        Boat b = edge.boat("9;p3,l4,c2;9:02,0:0,20");
        b.is(9, "at", 0, 0).is(5, "at", 0, 1).is(3 + 5, "at", 0, 2).is(6, "at", 0, 3);
        b.is(0, "at", 1, 0).is(1, "at", 1, 1).is(3, "at", 1, 2).is(4 + 3, "at", 1, 3);
        b.is(20, "at", 2, 0).is(0, "at", 2, 1).is(0, "at", 2, 2).is(3 + 9 + 5, "at", 2, 3);
        b.is(BAD, "at", 3, 0).is(BAD, "at", -1, 0).is(BAD, "at", LEAST, 0).is(BAD, "at", MOST, 0);
        b.is(BAD, "at", 0, 4).is(BAD, "at", 0, -1).is(BAD, "at", 0, LEAST).is(BAD, "at", 0, MOST);
        b.does("say", NONE).is(3 + 2, "at", 0, 2).is(4, "at", 1, 3);
    }

    private void rocks() {
        edge.promise(8, "By how much a PERSON ROCKS at a SAYING now. BAD.");
        Boat b = edge.boat("9;p3,l4;9:0,20").is(3, "rocks", 0, 0).is(6, "rocks", 1, 0).is(9, "rocks", 1, 1);
        b.is(BAD, "rocks", 2, 0).is(BAD, "rocks", -1, 0).is(BAD, "rocks", 0, 2).is(BAD, "rocks", 0, -1);
        b.is(BAD, "rocks", LEAST, 0).is(BAD, "rocks", MOST, 0).is(BAD, "rocks", 0, LEAST).is(BAD, "rocks", 0, MOST);
        b.does("say", 0).is(4 + 1, "rocks", 1, 0);
    }

    private void frost() {
        edge.terms("FROST is 0 .. 9 (1 at first).");
        edge.boat().is(1, "count", 5).is(1, "frost", 0).is(0, "count", 5).is(0, "frost", 9).is(9, "count", 5);
        edge.promise(9, "FROST becomes v: what it was. BAD.");
        Boat b = edge.boat().is(1, "frost", 9).is(9, "frost", 0).is(0, "frost", 9);
        b.is(BAD, "frost", 10).is(BAD, "frost", -1).is(BAD, "frost", LEAST).is(BAD, "frost", MOST).is(9, "count", 5);
    }

    private void count() {
        edge.promise(12, "0 CELLS, 1 PEOPLE, 2 SAYINGS, 3 ahead of which CELL THE BOAT is, 4 the MINUTE, 5 FROST, "
            + "6 ICE of all CELLS from there on, 7 JUICE of all, 8 what may be UNDONE. BAD.");
        Boat b = edge.boat("5.6.7;p9,p9;4:0,2:0,0").does("say", 0).does("thaw", 2, 1).does("frost", 8);
        int[] due = {3, 2, 3, 1, 1, 8, 6 + 6, 2 + 3, 2};
        for (int what = 0; what <= 8; what++) {
            b.is(due[what], "count", what);
        }
        b.is(BAD, "count", 9).is(BAD, "count", -1).is(BAD, "count", LEAST).is(BAD, "count", MOST);
        Boat most = edge.boat("60.60.60.60.60.60.60.60.60.60.60.60;p1;20,20,20,20,20");
        most.is(720, "count", 6).is(100, "count", 7);
    }

    private void plain() {
        edge.terms("By how much one ROCKS at a SAYING, by KIND: 0 PLAIN: by WEIGHT.");
        Boat b = edge.boat("60;p1,p9;0,20");
        for (int minute = 0; minute < 2; minute++) {
            b.is(1, "rocks", 0, 0).is(9, "rocks", 1, 0).is(1, "rocks", 0, 1).is(9, "rocks", 1, 1).does("say", NONE);
        }
    }

    private void loud() {
        edge.terms("What is divided is cut.");
        edge.boat("60;l1;3,7,11,15,19").is(1, "rocks", 0, 0).is(2, "rocks", 0, 1).is(3, "rocks", 0, 2)
            .is(4, "rocks", 0, 3).is(5, "rocks", 0, 4);
        edge.terms("Below it 1 LOUD: by a quarter of JUICE more.");
        edge.boat("60;l9,l1;0,4,8,16,20").is(9, "rocks", 0, 0).is(10, "rocks", 0, 1).is(11, "rocks", 0, 2)
            .is(13, "rocks", 0, 3).is(14, "rocks", 0, 4).is(6, "rocks", 1, 4);
    }

    private void dull() {
        edge.terms("2 DULL (below PLAIN): as PLAIN, but nothing if JUICE is below 6.");
        Boat b = edge.boat("60;d4,d9;0,5,6,20");
        b.is(0, "rocks", 0, 0).is(0, "rocks", 0, 1).is(4, "rocks", 0, 2).is(4, "rocks", 0, 3).is(9, "rocks", 1, 2);
        b.does("say", 2).is(4, "rocks", 0, 1).is(0, "rocks", 0, 2);
    }

    private void stubborn() {
        edge.terms("3 STUBBORN (below LOUD): as LOUD, twice as much if nobody else is on its side (FOR, AGAINST).");
        edge.boat("60;s3;8,7:0").is(10, "rocks", 0, 0).is(8, "rocks", 0, 1);
        Boat b = edge.boat("60;s3,p1;8,8:0,8:01,8:1");
        b.is(5, "rocks", 0, 0).is(10, "rocks", 0, 1).is(5, "rocks", 0, 2).is(10, "rocks", 0, 3);
        b.is(10, "at", 1, 2).is(10, "at", 3, 3).is(6, "at", 0, 3).is(6, "at", 2, 2);
        edge.boat("60;s9,s9;20,20:1").is(14, "rocks", 0, 0).is(14, "rocks", 1, 0).is(28, "rocks", 0, 1).is(28, "rocks", 1, 1);
        // Somebody who rocks nothing is on a side all the same.
        edge.boat("60;s3,d1;4").is(4, "rocks", 0, 0).is(4, "at", 0, 3);
        edge.boat("60;p1,p1,p1,p1,p1,s3;8,8:5,8:01234").is(5, "rocks", 5, 0).is(10, "rocks", 5, 1).is(10, "rocks", 5, 2);
    }

    private void child() {
        edge.terms("4 CHILD (below DULL): as DULL, and 3 more in MINUTES of an even number (0, too).");
        Boat b = edge.boat("60;c4;4,0,20");
        b.is(3, "rocks", 0, 0).is(3, "rocks", 0, 1).is(7, "rocks", 0, 2).does("say", NONE);
        b.is(0, "rocks", 0, 0).is(0, "rocks", 0, 1).is(4, "rocks", 0, 2).does("say", NONE);
        b.is(7, "rocks", 0, 0).is(3, "rocks", 0, 1).is(7, "rocks", 0, 2).does("say", NONE);
        b.is(4, "rocks", 0, 0).is(0, "rocks", 0, 1).is(4, "rocks", 0, 2);
        edge.boat("60;c9;5,6").is(3, "rocks", 0, 0).is(12, "rocks", 0, 1);
    }
}
