/**
 * Boats with something in every corner, so that a change anywhere can be seen by a probe: deeds to be undone, an
 * image that is unlike what is now, letters on the tape, items on sheets (even ones below 33, as a probe tells
 * these apart). Sheet 3 holds nothing.
 */
final class Worlds {
    static final int NONE = Edge.NONE;

    private Worlds() {
    }

    /** Three cells, three people, two sayings, five deeds; sheets of ints, longs, bytes. */
    static Boat small(Edge edge) {
        return sheets(untyped(edge)).types("4;p");
    }

    /** The same with an empty tape. */
    static Boat tapeless(Edge edge) {
        return sheets(untyped(edge));
    }

    /** An image taken of just what is now. */
    static Boat imaged(Edge edge) {
        return small(edge).does("image");
    }

    private static Boat untyped(Edge edge) {
        Boat b = edge.boat("6.30.8;p3,l4,s2;9:0,12:12").does("frost", 3).does("seed", 99).does("thaw", 2, 2).does("image");
        return b.does("say", 0).does("mind", 2, 0).does("drift", 1).does("thaw", 2, 1).does("seed", 1234567).does("frost", 2);
    }

    private static Boat sheets(Boat b) {
        b.does("sheet", 0, 2, 6).does("sheet", 1, 3, 4).does("sheet", 2, 0, 3);
        for (int k = 0; k < 6; k++) {
            b.does("item", 0, 2, k, 2 * k + 4);
        }
        for (int k = 0; k < 4; k++) {
            b.does("item", 1, 3, k, 30 - 2 * k);
        }
        return b.does("item", 2, 0, 1, 20);
    }

    /** As many cells, people, sayings as there may be. */
    static Boat full(Edge edge) {
        Boat b = edge.boat();
        for (int c = 0; c < 12; c++) {
            b.does("cell", 5 * c);
        }
        for (int p = 0; p < 6; p++) {
            b.does("person", p % 5, 9 - p);
        }
        for (int s = 0; s < 5; s++) {
            b.does("saying", 4 * s, 7 * s);
        }
        return b.does("image").does("drift", 2).does("mind", 5, 4).types("4;p");
    }

    /** The tape is full: a canal, and blanks. */
    static Boat typed(Edge edge) {
        Boat b = edge.boat("7;p1").does("say", NONE).types("4.5;p2,l3;7:1");
        for (int k = 13; k < 110; k++) {
            b.does("type", ' ');
        }
        return b;
    }

    /** Minute 9999, or some minutes earlier. */
    static Boat late(Edge edge, int earlier) {
        return EdgeDone.at(edge.boat("60.9;p3,p4;9:0"), 9999 - earlier).does("frost", 0);
    }
}
