/**
 * All that can be seen of a boat, as a text: what it tells, then (as these calls change it) the draw, what each undo
 * brings back, the tape's letters, the image, the items of the sheets 0 to 2. Two boats on which the same was
 * done give the same text, so a refused call on one of them must not make a difference.
 */
final class Probe {
    private static final int CAST = Edge.CAST;
    // With these people a saying may rock by 0, 2, .. 32, each by sets of its own.
    private static final String SCALE = "0;p1,p2,p4,p8,p9,p9;1";
    private final Boat boat;
    private final StringBuilder seen = new StringBuilder();

    private Probe(Boat boat) {
        this.boat = boat;
    }

    static String of(Boat boat) {
        Probe probe = new Probe(boat);
        probe.told();
        probe.undone();
        probe.tape();
        probe.image();
        probe.sheets();
        return probe.seen.toString();
    }

    private int see(String call, long... args) {
        int answer = boat.ask(call, args);
        seen.append(answer).append(' ');
        return answer;
    }

    private void told() {
        seen.append("| ");
        for (int what = 0; what <= 8; what++) {
            see("count", what);
        }
        for (int p = 0; p < boat.ask("count", 1); p++) {
            see("of", p, 0);
            see("of", p, 1);
        }
        moment();
    }

    // What an undo brings back.
    private void moment() {
        see("count", 3);
        see("count", 4);
        int cells = boat.ask("count", 0);
        for (int c = 0; c < cells; c++) {
            see("ice", c);
        }
        int sayings = boat.ask("count", 2);
        for (int s = 0; s < sayings; s++) {
            see("at", s, 0);
            see("at", s, 1);
        }
        see("seed", 5);
    }

    private void undone() {
        for (int k = 0; k <= 8; k++) {
            seen.append("| undo ");
            if (see("undo") < 0) {
                return;
            }
            moment();
        }
    }

    private void tape() {
        seen.append("| tape ");
        see("type", '2');
        see("canal");
        told();
    }

    private void image() {
        seen.append("| image ");
        if (see("restore") > 0) {
            told();
            undone();
        }
    }

    private void sheets() {
        seen.append("| sheets ");
        see("drop", 3);
        boat.types(SCALE).does("canal");
        for (int sheet = 0; sheet < 3; sheet++) {
            items(sheet);
            see("drop", sheet);
        }
    }

    private void items(int sheet) {
        for (int lane = 0; lane < 4; lane++) {
            if (see("felt", sheet, lane, 0, 1, 0) == CAST) {
                continue;
            }
            boat.ask("sheet", 3, lane, 2);
            for (int k = 0; k < 24; k++) {
                if (see("copy", sheet, k, 3, 1, 1) < 0) {
                    break;
                }
                see("felt", 3, lane, 0, 1, 1);
            }
        }
    }
}
