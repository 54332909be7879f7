/** The edges of sheets: promises 34 to 39, and what 'Terms' says of them. */
final class EdgeSheets {
    private static final int BAD = Edge.BAD, NOT = Edge.NOT, NONE = Edge.NONE, NULL = Edge.NULL, CAST = Edge.CAST;
    private static final int INDEX = Edge.INDEX, SIZE = Edge.SIZE, LEAST = Edge.LEAST, MOST = Edge.MOST;
    // By saying 0 these people may rock by 0, 2, .. 32; by the others by nothing.
    private static final String PEOPLE = ";p1,p2,p4,p8,p9,p9;1,0,0,0,0";
    private final Edge edge;

    EdgeSheets(Edge edge) {
        this.edge = edge;
    }

    void run() {
        kinds();
        sheet();
        drop();
        item();
        itemBits();
        copy();
        copyLimits();
        copyRefused();
        felt();
        feltPairs();
        feltRefused();
        film();
        filmLimits();
        filmRefused();
    }

    /** Whether item i is this even number up to 32: beside it on sheet 3 the two can be felt together. */
    private void itemIs(Boat b, int sheet, int lane, int i, int v) {
        b.does("sheet", 3, lane, 4).does("item", 3, lane, 1, v).is(1, "copy", sheet, i, 3, 3, 1);
        int alone = b.ask("felt", 3, lane, 0, 1, 0);
        edge.due("item " + i + " of sheet " + sheet + " is " + v, alone > 0 ? b.ask("felt", 3, lane, 0, 2, 0) : 0, alone > 0 ? alone : 1);
        b.does("drop", 3);
    }

    private void row(Boat b, int sheet, int lane, int... items) {
        b.does("sheet", sheet, lane, items.length);
        for (int k = 0; k < items.length; k++) {
            b.does("item", sheet, lane, k, items[k]);
        }
    }

    private void rowIs(Boat b, int sheet, int lane, int... items) {
        for (int k = 0; k < items.length; k++) {
            itemIs(b, sheet, lane, k, items[k]);
        }
        b.is(INDEX, "item", sheet, lane, items.length, 0);
    }

    private void kinds() {
        edge.terms("3 sheets 0 .. 3: nothing (at first), or a row of a LANE: 0 bytes, 1 shorts, 2 ints, 3 longs, of 0 to 24 items.");
        for (int sheet = 0; sheet < 4; sheet++) {
            Boat b = edge.boat().is(NULL, "drop", sheet).is(NULL, "item", sheet, 0, 0, 1);
            for (int lane = 0; lane < 4; lane++) {
                b.is(24, "sheet", sheet, lane, 24).is(1, "item", sheet, lane, 23, 1).is(INDEX, "item", sheet, lane, 24, 1);
                b.is(0, "sheet", sheet, lane, 0).is(INDEX, "item", sheet, lane, 0, 1);
                for (int other = 0; other < 4; other++) {
                    b.is(other == lane ? INDEX : CAST, "item", sheet, other, 0, 1);
                }
            }
        }
        edge.boat().is(BAD, "drop", 4).is(BAD, "drop", -1);
    }

    private void sheet() {
        edge.promise(36, "A SHEET holds a new row of a LANE: n.");
        Boat b = edge.boat("9" + PEOPLE);
        for (int lane = 0; lane < 4; lane++) {
            row(b, 0, lane, 2, 4, 6);
            b.is(3, "sheet", 0, lane, 3);
            rowIs(b, 0, lane, 0, 0, 0);
        }
        row(b, 0, 2, 2, 4, 6);
        b.is(1, "sheet", 0, 2, 1).is(3, "sheet", 0, 2, 3);
        rowIs(b, 0, 2, 0, 0, 0);
        row(b, 0, 2, 2, 4);
        b.is(2, "sheet", 1, 2, 2).is(2, "drop", 1);
        rowIs(b, 0, 2, 2, 4);

        edge.promise(36, "BAD: also n above 24; SIZE: n below 0.");
        Boat c = edge.boat().is(BAD, "sheet", 0, 0, 25).is(BAD, "sheet", 0, 0, MOST).is(SIZE, "sheet", 0, 0, -1).is(SIZE, "sheet", 0, 0, LEAST);
        c.is(NULL, "drop", 0).is(BAD, "sheet", 4, 0, 1).is(BAD, "sheet", -1, 0, 1).is(BAD, "sheet", 0, 4, 1).is(BAD, "sheet", 0, -1, 1);
        c.is(BAD, "sheet", LEAST, 0, 1).is(BAD, "sheet", MOST, 0, 1).is(BAD, "sheet", 0, LEAST, 1).is(BAD, "sheet", 0, MOST, 1);
        c.is(BAD, "sheet", 4, 0, -1).is(BAD, "sheet", 0, 4, -1).is(NULL, "drop", 0).is(0, "sheet", 0, 0, 0).is(24, "sheet", 0, 3, 24);
        c.is(SIZE, "sheet", 0, 0, -1).is(BAD, "sheet", 0, 0, 25).is(1, "item", 0, 3, 23, 9).is(24, "drop", 0);
    }

    private void drop() {
        edge.promise(37, "A SHEET holds nothing: how many items it had. BAD; NULL.");
        Boat b = edge.boat().is(NULL, "drop", 0).is(NULL, "drop", 3).is(BAD, "drop", 4).is(BAD, "drop", -1).is(BAD, "drop", LEAST).is(BAD, "drop", MOST);
        b.does("sheet", 0, 1, 24).does("sheet", 3, 1, 0).is(24, "drop", 0).is(NULL, "drop", 0).is(0, "drop", 3).is(NULL, "drop", 3);
        b.is(NULL, "item", 0, 1, 0, 1).is(NULL, "copy", 0, 0, 0, 0, 0).does("sheet", 0, 1, 1).is(1, "drop", 0);
    }

    private void item() {
        edge.promise(38, "BAD; NULL; CAST; INDEX.");
        Boat b = edge.boat().does("sheet", 0, 2, 3);
        b.is(INDEX, "item", 0, 2, 3, 1).is(INDEX, "item", 0, 2, -1, 1).is(INDEX, "item", 0, 2, LEAST, 1).is(INDEX, "item", 0, 2, MOST, 1);
        b.is(1, "item", 0, 2, 0, 1).is(1, "item", 0, 2, 2, 1).is(CAST, "item", 0, 1, 0, 1).is(CAST, "item", 0, 3, 3, 1);
        b.is(NULL, "item", 1, 2, 0, 1).is(NULL, "item", 1, 0, -1, 1).is(BAD, "item", 4, 2, 0, 1).is(BAD, "item", -1, 2, 0, 1);
        b.is(BAD, "item", 0, 4, 0, 1).is(BAD, "item", 0, -1, 0, 1).is(BAD, "item", 1, 4, 0, 1).is(BAD, "item", 0, 4, 3, 1);
        b.is(BAD, "item", LEAST, 2, 0, 1).is(BAD, "item", MOST, 2, 0, 1).is(BAD, "item", 0, LEAST, 0, 1).is(BAD, "item", 0, MOST, 0, 1);
    }

    private void itemBits() {
        edge.promise(38, "Item i of a SHEET, taken as a row of a LANE, becomes v, its lowest bits: 1.");
        int[] bits = {8, 16, 32, 64};
        Boat b = edge.boat("9" + PEOPLE);
        for (int lane = 0; lane < 4; lane++) {
            b.does("sheet", 0, lane, 2);
            long highest = 1L << (bits[lane] - 1);
            // The highest bit that there is makes it no saying; the next one is lost, and it is saying 0 again.
            b.is(1, "item", 0, lane, 0, highest).is(NOT, "felt", 0, lane, 0, 1, 0).is(1, "item", 0, lane, 0, 0).does("felt", 0, lane, 0, 1, 0);
            if (lane < 3) {
                b.is(1, "item", 0, lane, 0, highest << 1).is(2, "felt", 0, lane, 0, 1, 0);
                b.is(1, "item", 0, lane, 1, (highest << 1) + 20);
                itemIs(b, 0, lane, 1, 20);
                b.is(1, "item", 0, lane, 1, Long.MIN_VALUE + 22);
                itemIs(b, 0, lane, 1, 22);
            }
            b.is(1, "item", 0, lane, 0, -1).is(NOT, "felt", 0, lane, 0, 1, 0).is(1, "item", 0, lane, 0, Long.MAX_VALUE).is(NOT, "felt", 0, lane, 0, 1, 0);
            b.is(1, "item", 0, lane, 0, 4).is(1, "item", 0, lane, 1, 0).is(64, "felt", 0, lane, 0, 1, 0);
            b.is(1, "item", 0, lane, 0, 5).is(NOT, "felt", 0, lane, 0, 1, 0);
        }
        b.does("item", 0, 3, 0, 0).does("item", 0, 3, 1, (1L << 32) + 20).is(0, "felt", 0, 3, 0, 1, 0);
        b.does("item", 0, 3, 0, 1L << 32).does("item", 0, 3, 1, 0).is(NOT, "felt", 0, 3, 0, 1, 0);
    }

    private void copy() {
        edge.promise(39, "n items of a SHEET from i on come to another one (or the same) from j on, as if all were taken ahead: n.");
        for (int lane = 0; lane < 4; lane++) {
            Boat b = edge.boat("9" + PEOPLE);
            row(b, 0, lane, 2, 4, 6, 8, 10);
            row(b, 1, lane, 12, 14, 16);
            b.is(2, "copy", 0, 3, 1, 1, 2);
            rowIs(b, 1, lane, 12, 8, 10);
            rowIs(b, 0, lane, 2, 4, 6, 8, 10);
        }
        Boat right = edge.boat("9" + PEOPLE);
        row(right, 0, 2, 2, 4, 6, 8, 10);
        right.is(4, "copy", 0, 0, 0, 1, 4);
        rowIs(right, 0, 2, 2, 2, 4, 6, 8);
        right.is(4, "copy", 0, 1, 0, 0, 4);
        rowIs(right, 0, 2, 2, 4, 6, 8, 8);
        right.is(5, "copy", 0, 0, 0, 0, 5).is(0, "copy", 0, 2, 0, 0, 0);
        rowIs(right, 0, 2, 2, 4, 6, 8, 8);
    }

    private void copyLimits() {
        edge.promise(39, "INDEX.");
        Boat b = edge.boat().does("sheet", 0, 1, 24).does("sheet", 1, 1, 3).does("sheet", 2, 1, 0);
        b.is(24, "copy", 0, 0, 0, 0, 24).is(INDEX, "copy", 0, 0, 0, 0, 25).is(INDEX, "copy", 0, 0, 0, 1, 24).is(INDEX, "copy", 0, 1, 0, 0, 24);
        b.is(3, "copy", 0, 21, 1, 0, 3).is(INDEX, "copy", 0, 22, 1, 0, 3).is(INDEX, "copy", 0, 0, 1, 0, 4).is(INDEX, "copy", 0, 0, 1, 1, 3);
        b.is(1, "copy", 0, 23, 1, 2, 1).is(INDEX, "copy", 0, 24, 1, 2, 1).is(INDEX, "copy", 0, 23, 1, 3, 1);
        b.is(0, "copy", 0, 24, 1, 3, 0).is(INDEX, "copy", 0, 25, 1, 3, 0).is(INDEX, "copy", 0, 24, 1, 4, 0);
        b.is(INDEX, "copy", 0, -1, 1, 0, 1).is(INDEX, "copy", 0, 0, 1, -1, 1).is(INDEX, "copy", 0, -1, 1, 0, 0).is(INDEX, "copy", 0, 0, 1, -1, 0);
        b.is(0, "copy", 2, 0, 2, 0, 0).is(INDEX, "copy", 2, 0, 1, 0, 1).is(INDEX, "copy", 1, 0, 2, 0, 1).is(INDEX, "copy", 2, 1, 2, 0, 0);
        b.is(INDEX, "copy", 0, 1, 1, 1, -1).is(INDEX, "copy", 0, 1, 1, 1, LEAST).is(INDEX, "copy", 0, 1, 1, 1, MOST);
        b.is(INDEX, "copy", 0, MOST, 1, 0, 1).is(INDEX, "copy", 0, 0, 1, MOST, 1).is(INDEX, "copy", 0, MOST, 1, MOST, MOST);
        b.is(INDEX, "copy", 0, LEAST, 1, 0, 1).is(INDEX, "copy", 0, 0, 1, LEAST, 1).is(INDEX, "copy", 0, 1, 1, 1, -25);
    }

    private void copyRefused() {
        edge.promise(39, "BAD; NULL (either); CAST: of unlike LANES; INDEX.");
        Boat b = edge.boat().does("sheet", 0, 1, 3).does("sheet", 1, 2, 3);
        b.is(BAD, "copy", 4, 0, 0, 0, 1).is(BAD, "copy", -1, 0, 0, 0, 1).is(BAD, "copy", 0, 0, 4, 0, 1).is(BAD, "copy", 0, 0, -1, 0, 1);
        b.is(BAD, "copy", LEAST, 0, 0, 0, 1).is(BAD, "copy", MOST, 0, 0, 0, 1).is(BAD, "copy", 0, 0, LEAST, 0, 1).is(BAD, "copy", 0, 0, MOST, 0, 1);
        b.is(BAD, "copy", 3, 9, 4, 9, 9).is(BAD, "copy", -1, 9, 3, 9, 9);
        b.is(NULL, "copy", 0, 0, 3, 0, 1).is(NULL, "copy", 3, 0, 0, 0, 1).is(NULL, "copy", 3, 0, 2, 0, 1).is(NULL, "copy", 3, 0, 3, 0, 0);
        b.is(NULL, "copy", 0, 9, 3, 9, -1).is(CAST, "copy", 0, 0, 1, 0, 1).is(CAST, "copy", 1, 0, 0, 0, 0).is(CAST, "copy", 1, 9, 0, -1, -1);
        for (int lane = 0; lane < 4; lane++) {
            b.does("sheet", 2, lane, 3).is(lane == 1 ? 3 : CAST, "copy", 0, 0, 2, 0, 3).is(lane == 2 ? 3 : CAST, "copy", 2, 0, 1, 0, 3);
        }
    }

    private void felt() {
        edge.terms("==== 3 FELT: a row tells by how much SAYINGS ROCK now (n pairs of a SAYING and how much): sets of PEOPLE, who, being "
            + "FOR each of these (all others AGAINST), would make it so: how many; the least; none.");
        Boat b = edge.boat("9;p3,p4,p7;8,0:0,8:2,1");
        int[][] dues = {{0, 14, 2, 3}, {0, 0, 2, 0}, {0, 6, 2, 1}, {0, 8, 2, 2}, {0, 7, 0, NONE}, {0, 16, 0, NONE}, {0, -14, 0, NONE},
            {1, 0, 8, 0}, {1, 2, 0, NONE}, {2, 14, 2, 3}, {3, 8, 2, 2}};
        b.does("sheet", 0, 2, 10);
        for (int[] of : dues) {
            b.does("item", 0, 2, 0, of[0]).does("item", 0, 2, 1, of[1]).is(of[2], "felt", 0, 2, 0, 1, 0).is(of[3], "felt", 0, 2, 0, 1, 1);
        }
        // The child is louder in a minute of an even number, and the dull one wants juice: one set must do for all.
        Boat two = edge.boat("9;c3,p5,d9;9,3");
        row(two, 0, 1, 0, 12, 1, 6);
        two.is(2, "felt", 0, 1, 0, 1, 0).is(1, "felt", 0, 1, 0, 1, 1).is(4, "felt", 0, 1, 2, 1, 0).is(1, "felt", 0, 1, 2, 1, 1);
        two.is(2, "felt", 0, 1, 0, 2, 0).is(1, "felt", 0, 1, 0, 2, 1).does("item", 0, 1, 1, 10).is(2, "felt", 0, 1, 0, 2, 0).is(2, "felt", 0, 1, 0, 2, 1);
        two.does("item", 0, 1, 3, 0).is(0, "felt", 0, 1, 0, 2, 0).is(NONE, "felt", 0, 1, 0, 2, 1);
        Boat nobody = edge.boat().does("saying", 5, 0).does("sheet", 0, 0, 2).is(1, "felt", 0, 0, 0, 1, 0).is(0, "felt", 0, 0, 0, 1, 1);
        nobody.does("item", 0, 0, 1, 2).is(0, "felt", 0, 0, 0, 1, 0).is(NONE, "felt", 0, 0, 0, 1, 1);
    }

    private void feltPairs() {
        edge.promise(34, "FELT by n pairs (1 .. 5), two items each of a SHEET taken as a row of a LANE, from item i on: how many (what 0), "
            + "the least (1; NONE).");
        for (int lane = 0; lane < 4; lane++) {
            Boat b = edge.boat("9" + PEOPLE);
            row(b, 0, lane, 0, 32, 1, 0, 2, 0, 3, 0, 4, 0);
            int sets = b.ask("felt", 0, lane, 0, 1, 0);
            for (int n = 1; n <= 5; n++) {
                b.is(sets, "felt", 0, lane, 0, n, 0).is(23, "felt", 0, lane, 0, n, 1);
            }
            b.is(64, "felt", 0, lane, 8, 1, 0).is(64, "felt", 0, lane, 2, 4, 0).is(BAD, "felt", 0, lane, 0, 6, 0).is(BAD, "felt", 0, lane, 0, 0, 0);
            b.does("item", 0, lane, 9, 2).is(0, "felt", 0, lane, 0, 5, 0).is(NONE, "felt", 0, lane, 0, 5, 1).is(sets, "felt", 0, lane, 0, 4, 0);
        }
    }

    private void feltRefused() {
        edge.promise(34, "BAD; NULL; CAST; INDEX; NOT: there is no such SAYING.");
        Boat b = edge.boat("9;p1,p1;0,0").does("sheet", 0, 2, 24).does("sheet", 1, 3, 10);
        b.is(4, "felt", 0, 2, 22, 1, 0).is(INDEX, "felt", 0, 2, 23, 1, 0).is(4, "felt", 0, 2, 14, 5, 0).is(INDEX, "felt", 0, 2, 15, 5, 0);
        b.is(4, "felt", 1, 3, 0, 5, 0).is(INDEX, "felt", 1, 3, 1, 5, 0).is(INDEX, "felt", 0, 2, -1, 1, 0).is(INDEX, "felt", 0, 2, -2, 1, 0);
        b.is(INDEX, "felt", 0, 2, MOST, 5, 0).is(INDEX, "felt", 0, 2, LEAST, 1, 0).is(INDEX, "felt", 0, 2, MOST - 1, 1, 0);
        b.is(BAD, "felt", 4, 2, 0, 1, 0).is(BAD, "felt", -1, 2, 0, 1, 0).is(BAD, "felt", 0, 4, 0, 1, 0).is(BAD, "felt", 0, -1, 0, 1, 0);
        b.is(BAD, "felt", 0, 2, 0, 0, 0).is(BAD, "felt", 0, 2, 0, 6, 0).is(BAD, "felt", 0, 2, 0, LEAST, 0).is(BAD, "felt", 0, 2, 0, MOST, 0);
        b.is(BAD, "felt", 0, 2, 0, 1, 2).is(BAD, "felt", 0, 2, 0, 1, -1).is(BAD, "felt", 0, 2, 0, 1, LEAST).is(BAD, "felt", 0, 2, 0, 1, MOST);
        b.is(BAD, "felt", 3, 2, -1, 6, 0).is(BAD, "felt", 3, 4, -1, 1, 0).is(BAD, "felt", 3, 2, -1, 1, 2).is(BAD, "felt", MOST, 2, 0, 1, 0);
        b.is(NULL, "felt", 3, 2, -1, 1, 0).is(NULL, "felt", 2, 0, 0, 5, 1).is(CAST, "felt", 0, 1, 99, 1, 0).is(CAST, "felt", 1, 2, 0, 1, 1);
        b.does("item", 0, 2, 0, 1).is(4, "felt", 0, 2, 0, 1, 0).does("item", 0, 2, 0, 2).is(NOT, "felt", 0, 2, 0, 1, 0).is(NOT, "felt", 0, 2, 0, 1, 1);
        b.does("item", 0, 2, 0, -1).is(NOT, "felt", 0, 2, 0, 1, 0).does("item", 0, 2, 0, 0).does("item", 0, 2, 8, 2).is(NOT, "felt", 0, 2, 0, 5, 0);
        b.is(4, "felt", 0, 2, 0, 4, 0).does("item", 0, 2, 1, 7).is(0, "felt", 0, 2, 0, 4, 0).is(NOT, "felt", 0, 2, 0, 5, 0).is(NOT, "felt", 0, 2, 0, 5, 1);
        b.does("item", 1, 3, 6, 9).is(INDEX, "felt", 1, 3, 6, 3, 0).is(NOT, "felt", 1, 3, 6, 2, 0);
        edge.boat("9;p1").does("sheet", 0, 0, 2).is(NOT, "felt", 0, 0, 0, 1, 0);
    }

    private void film() {
        edge.promise(35, "ICE of n CELLS from a CELL on (1 .. 12, beyond the last one: BAD), an item each, comes to a SHEET likewise: n.");
        for (int lane = 0; lane < 4; lane++) {
            Boat b = edge.boat("2.4.6.8" + PEOPLE);
            row(b, 0, lane, 12, 14, 16, 18, 20);
            b.is(2, "film", 1, 2, 0, lane, 2);
            rowIs(b, 0, lane, 12, 14, 4, 6, 20);
            b.is(4, "film", 0, 4, 0, lane, 0).is(1, "film", 3, 1, 0, lane, 4);
            rowIs(b, 0, lane, 2, 4, 6, 8, 8);
            b.is(BAD, "film", 0, 5, 0, lane, 0).is(BAD, "film", 3, 2, 0, lane, 0).is(BAD, "film", 4, 1, 0, lane, 0).is(BAD, "film", -1, 1, 0, lane, 0);
            b.is(BAD, "film", 0, 0, 0, lane, 0).is(BAD, "film", 0, -1, 0, lane, 0).is(BAD, "film", 1, MOST, 0, lane, 0).is(BAD, "film", 1, LEAST, 0, lane, 0);
        }
        Boat behind = edge.boat("0.6" + PEOPLE).does("say", NONE).does("thaw", 1, 2);
        row(behind, 0, 0, 8, 8);
        behind.is(2, "film", 0, 2, 0, 0, 0);
        rowIs(behind, 0, 0, 0, 4);
    }

    private void filmLimits() {
        Boat b = edge.boat("2.4.6.8.10.12.14.16.18.20.22.24" + PEOPLE).does("sheet", 0, 2, 12).does("sheet", 1, 2, 11);
        b.is(12, "film", 0, 12, 0, 2, 0).is(INDEX, "film", 0, 12, 0, 2, 1).is(INDEX, "film", 0, 12, 1, 2, 0).is(BAD, "film", 0, 13, 0, 2, 0);
        b.is(11, "film", 1, 11, 1, 2, 0).is(BAD, "film", 1, 12, 0, 2, 0).is(1, "film", 11, 1, 0, 2, 0).is(BAD, "film", 11, 2, 0, 2, 0);
        b.is(BAD, "film", 12, 1, 0, 2, 0).is(BAD, "film", MOST, 1, 0, 2, 0).is(BAD, "film", LEAST, 1, 0, 2, 0).is(BAD, "film", MOST, MOST, 0, 2, 0);
        itemIs(b, 0, 2, 0, 24);
        itemIs(b, 0, 2, 11, 24);
        itemIs(b, 0, 2, 1, 4);
        itemIs(b, 1, 2, 0, 4);
        itemIs(b, 1, 2, 10, 24);
    }

    private void filmRefused() {
        edge.promise(35, "BAD; NULL; CAST; INDEX.");
        Boat b = edge.boat("2.4.6" + PEOPLE);
        row(b, 0, 2, 12, 14, 16);
        b.is(INDEX, "film", 0, 3, 0, 2, 1).is(INDEX, "film", 0, 1, 0, 2, 3).is(INDEX, "film", 0, 1, 0, 2, -1).is(INDEX, "film", 0, 3, 0, 2, -1);
        b.is(INDEX, "film", 0, 1, 0, 2, MOST).is(INDEX, "film", 0, 3, 0, 2, LEAST).is(CAST, "film", 0, 3, 0, 1, 1).is(CAST, "film", 0, 1, 0, 3, 0);
        b.is(NULL, "film", 0, 3, 1, 2, 9).is(NULL, "film", 0, 3, 1, 0, 0).is(BAD, "film", 0, 4, 1, 2, 9).is(BAD, "film", 0, 4, 0, 1, 9);
        b.is(BAD, "film", 0, 1, 4, 2, 0).is(BAD, "film", 0, 1, -1, 2, 0).is(BAD, "film", 0, 1, 0, 4, 0).is(BAD, "film", 0, 1, 0, -1, 0);
        b.is(BAD, "film", 0, 1, LEAST, 2, 0).is(BAD, "film", 0, 1, MOST, 2, 0).is(BAD, "film", 0, 1, 1, LEAST, 0).is(BAD, "film", 0, 1, 1, MOST, 0);
        rowIs(b, 0, 2, 12, 14, 16);
        edge.boat().does("sheet", 0, 0, 3).is(BAD, "film", 0, 1, 0, 0, 0);
    }
}
