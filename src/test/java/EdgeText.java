/** The edges of the tape and of a canal as a text: promises 10 and 11, and what 'Terms' says of them. */
final class EdgeText {
    private static final int BAD = Edge.BAD, FULL = Edge.FULL, NONE = Edge.NONE, LEAST = Edge.LEAST, MOST = Edge.MOST;
    private static final String SIX = "p1,p1,p1,p1,p1,p1";
    private final Edge edge;

    EdgeText(Edge edge) {
        this.edge = edge;
    }

    void run() {
        tape();
        cells();
        people();
        kinds();
        sayings();
        fors();
        inPlaceOfAll();
        nothingOfTheOld();
        digits();
        faults();
        theEnd();
        blanks();
        canal();
        fullTape();
    }

    private Boat reads(int cells, String text) {
        return edge.boat().types(text).is(cells, "canal");
    }

    private void fault(int place, String text) {
        edge.boat("7.8;p3,l4;9:0").types(text).is(-20 - place, "canal").is(15, "count", 6).is(1, "type", '5');
    }

    private static String repeated(String text, int times) {
        return text.repeat(times);
    }

    private void tape() {
        edge.promise(10, "One letter more behind THE TAPE: how many it has. BAD: not 32 .. 126; FULL: 110.");
        Boat b = edge.boat().is(BAD, "type", 31).is(BAD, "type", 127).is(BAD, "type", LEAST).is(BAD, "type", MOST);
        b.is(BAD, "type", 0).is(BAD, "type", -1).is(BAD, "type", 256 + 'p').is(BAD, "type", 65536 + 'p');
        b.is(1, "type", 32).is(2, "type", 126).is(3, "type", 33).is(4, "type", 125);
        for (int k = 5; k <= 110; k++) {
            b.is(k, "type", '1');
        }
        b.is(FULL, "type", '1').is(FULL, "type", 32).is(FULL, "type", 126).is(BAD, "type", 31).is(BAD, "type", 127);
        b.is(-21, "canal").is(1, "type", '1');
    }

    private void cells() {
        edge.terms("A CANAL is a TEXT: 1 to 12 numbers 0 .. 60 with . between (ICE);");
        reads(1, "0;p1").is(0, "ice", 0);
        reads(1, "60;p1").is(60, "ice", 0);
        reads(2, "59.1;p1").is(59, "ice", 0).is(1, "ice", 1);
        Boat most = reads(12, "60.1.2.3.4.5.6.7.8.9.10.0;p1").is(60, "ice", 0).is(0, "ice", 11).is(BAD, "ice", 12);
        for (int c = 1; c < 11; c++) {
            most.is(c, "ice", c);
        }
        fault(0, "");
        fault(0, ";p1");
        fault(0, ".5;p1");
        fault(0, "x");
        fault(0, "-1;p1");
        fault(0, "p1");
        fault(2, "5.p1");
        fault(0, "61;p1");
        fault(0, "99;p1");
        fault(2, "5.61;p1");
        fault(2, "5.;p1");
        fault(2, "5..5;p1");
        fault(1, "5,5;p1");
        fault(1, "5:5;p1");
        fault(22, repeated("1.", 11) + "61;p1");
        fault(23, repeated("1.", 12) + "1;p1");
        fault(23, repeated("1.", 12) + ";p1");
    }

    private void people() {
        edge.terms("then ; and 1 to 6 PEOPLE with , between: p l d s c (KINDS in this order), a digit 1 .. 9 (WEIGHT);");
        reads(1, "5;p1").is(1, "count", 1).is(1, "of", 0, 1);
        reads(1, "5;p9").is(9, "of", 0, 1);
        reads(1, "5;p1,p2,p3,p4,p5,p6").is(6, "count", 1).is(6, "of", 5, 1).is(1, "of", 0, 1);
        fault(1, "5");
        fault(1, "5p1");
        fault(2, "5;");
        fault(2, "5;;");
        fault(2, "5;1");
        fault(2, "5;,p1");
        fault(3, "5;p");
        fault(3, "5;p0");
        fault(3, "5;p:");
        fault(3, "5;p/");
        fault(3, "5;pp1");
        fault(3, "5;p,p1");
        fault(4, "5;p12");
        fault(4, "5;p1p1");
        fault(4, "5;p1.p1");
        fault(5, "5;p1,");
        fault(5, "5;p1,,p1");
        fault(5, "5;p1,1");
        fault(5, "5;p1,;3");
        fault(6, "5;p1,p");
        fault(18, "5;p1,p1,p1,p1,p1,p0");
        fault(19, "5;" + SIX + ",p1");
        fault(19, "5;" + SIX + ",");
    }

    private void kinds() {
        Boat b = reads(1, "5;p5,l4,d3,s2,c1");
        for (int p = 0; p < 5; p++) {
            b.is(p, "of", p, 0).is(5 - p, "of", p, 1);
        }
        for (char letter = 32; letter < 127; letter++) {
            if ("pldsc ".indexOf(letter) < 0) {
                fault(2, "5;" + letter + "1");
            }
        }
    }

    private void sayings() {
        edge.terms("then perhaps ; and 1 to 5 SAYINGS with , between: a number 0 .. 20 (JUICE), then perhaps : and one digit or "
            + "more, rising, each of a PERSON there is (FOR):");
        reads(1, "5;p1").is(0, "count", 2);
        reads(1, "5;p1;0").is(1, "count", 2).is(0, "at", 0, 0).is(0, "at", 0, 1);
        reads(1, "5;p1;20").is(20, "at", 0, 0);
        reads(1, "5;p1;20,19,1,0,7").is(5, "count", 2).is(20, "at", 0, 0).is(19, "at", 1, 0).is(1, "at", 2, 0)
            .is(0, "at", 3, 0).is(7, "at", 4, 0);
        reads(1, "5;p1;1,2,3,4,5:0").is(1, "at", 4, 1);
        fault(5, "5;p1;");
        fault(5, "5;p1;;");
        fault(5, "5;p1;x");
        fault(5, "5;p1;:0");
        fault(5, "5;p1;,1");
        fault(5, "5;p1;21");
        fault(5, "5;p1;21:0");
        fault(5, "5;p1;99");
        fault(6, "5;p1;1.1");
        fault(6, "5;p1;1;1");
        fault(6, "5;p1;1;");
        fault(6, "5;p1;1p");
        fault(7, "5;p1;1,");
        fault(7, "5;p1;1,,1");
        fault(7, "5;p1;1,:0");
        fault(7, "5;p1;1,21");
        fault(14, "5;p1;1,1,1,1,1,1");
        fault(14, "5;p1;1,1,1,1,1,");
        fault(14, "5;p1;1,1,1,1,1;");
        fault(13, "5;p1;1,1,1,1,21");
    }

    private void fors() {
        reads(1, "5;p1;3:0").is(1, "at", 0, 1);
        reads(1, "5;" + SIX + ";3:012345,4:5,5:0,6:14,7").is(63, "at", 0, 1).is(32, "at", 1, 1).is(1, "at", 2, 1)
            .is(18, "at", 3, 1).is(0, "at", 4, 1);
        fault(7, "5;p1;1:");
        fault(7, "5;p1;1:,1");
        fault(7, "5;p1;1::");
        fault(7, "5;p1;1:x");
        fault(7, "5;p1;1:1");
        fault(7, "5;p1;1:9");
        fault(8, "5;p1;1:00");
        fault(8, "5;p1;1:01");
        fault(8, "5;p1;1:0:0");
        fault(8, "5;p1;1:0;");
        fault(8, "5;p1;1:0p");
        fault(9, "5;p1;1:0,");
        fault(11, "5;p1,p1;1:10");
        fault(11, "5;p1,p1;1:11");
        fault(10, "5;p1,p1;1:2");
        fault(12, "5;p1,p1;1:012");
        fault(22, "5;" + SIX + ";1:6");
        fault(23, "5;" + SIX + ";1:56");
        fault(23, "5;" + SIX + ";1:55");
        fault(28, "5;" + SIX + ";1:0123455");
        fault(28, "5;" + SIX + ";1:0123456");
        fault(27, "5;" + SIX + ";1:012344");
    }

    private void inPlaceOfAll() {
        edge.terms("in place of all CELLS, PEOPLE, SAYINGS; THE BOAT ahead of CELL 0, MINUTE 0 (FROST, THE DRAW stay).");
        Boat b = edge.boat("0.0.9;c3,s4,d5;9:012,20:1").does("frost", 7).does("seed", 99).does("say", 0).does("say", 1);
        b.types("5.6;l2,p1;4").is(2, "canal").is(2, "count", 0).is(2, "count", 1).is(1, "count", 2).is(0, "count", 3);
        b.is(0, "count", 4).is(7, "count", 5).is(11, "count", 6).is(4, "count", 7).is(0, "count", 8).is(99, "seed", 99);
        b.is(BAD, "ice", 2).is(BAD, "of", 2, 0).is(BAD, "at", 1, 0).is(1, "of", 0, 0).is(2, "of", 0, 1).is(0, "of", 1, 0);
        b.is(0, "at", 0, 1).is(0, "of", 0, 2).is(2, "cell", 3).is(2, "person", 0, 1).is(1, "saying", 2, 0).is(0, "at", 1, 1);
        b.types("1;p1").is(1, "canal").is(1, "count", 0).is(1, "count", 1).is(0, "count", 2).is(BAD, "say", 0);
        // Letters that a fault followed leave nothing behind, either.
        Boat after = edge.boat().types("9.9;p1,p2;5:01,6x").is(-36, "canal").types("8;p3,p4;7").is(1, "canal");
        after.is(1, "count", 2).is(0, "at", 0, 1).is(1, "count", 0).is(8, "ice", 0).is(2, "count", 1).is(3, "of", 0, 1);
    }

    // What is foretold does not see a cell, a person, a saying that was there.
    private void nothingOfTheOld() {
        String less = "60.3;p3,p4,p5,p6;9:0";
        Boat b = edge.boat("9.9.9.9;p9,p9,p9,p9,s9,s9;20:01,20:02,20:03,20:12,20:4").does("say", 4).types(less).does("canal");
        edge.same("foretold as of a new one", foretold(b), foretold(edge.boat(less)));
        Boat none = edge.boat("9.9.9.9;p9,p9,p9,p9,s9,s9;20:01,20:02,20:03,20:12,20:4").types("60;p3,p4,p5,p6").does("canal");
        edge.same("foretold as of a new one", foretold(none), foretold(edge.boat("60;p3,p4,p5,p6")));
    }

    private static String foretold(Boat b) {
        StringBuilder seen = new StringBuilder();
        for (int what = 0; what < 2; what++) {
            seen.append(b.ask("next", what)).append(' ').append(b.ask("boats", what)).append(' ').append(b.ask("ring", what)).append(' ');
            seen.append(b.ask("plan", 4, what - 1)).append(' ').append(b.ask("once", what - 1)).append(' ').append(b.ask("greedy", 30, what));
            seen.append(' ').append(b.ask("crew", 0, 2, what)).append(' ').append(b.ask("minds", 0, what)).append(' ');
            seen.append(b.ask("sway", 0, 7, what)).append(' ').append(b.ask("sick", 0, 3, what)).append(' ').append(b.ask("count", 6 + what));
            seen.append(' ');
        }
        return seen.append(b.ask("through")).append(' ').append(b.ask("enough", 0)).append(' ').append(b.ask("of", 0, 2)).toString();
    }

    private void digits() {
        edge.terms("Numbers have 1 or 2 digits (a third one can't stand there).");
        reads(2, "00.09;p1;00,09").is(0, "ice", 0).is(9, "ice", 1).is(0, "at", 0, 0).is(9, "at", 1, 0);
        fault(2, "000;p1");
        fault(2, "007;p1");
        fault(2, "100;p1");
        fault(2, "600;p1");
        fault(4, "5.601;p1");
        fault(7, "5;p1;200");
        fault(7, "5;p1;001");
        fault(9, "5;p1;1,100");
    }

    private void faults() {
        edge.terms("FAULTS: -20 less the place of the first letter (behind blanks) that can't stand there, or of the number's first "
            + "digit, if it is not as told (the end: how many there are);");
        fault(0, "x61");
        fault(0, "61x");
        fault(0, "61");
        fault(0, "611");
        fault(2, "60");
        fault(3, "60.");
        fault(3, "   61;p1");
        fault(3, "   x");
        fault(5, "5;p1;21x");
        fault(8, "5;p1;   21");
        fault(8, "5;p1;   ");
        fault(7, "5;p1   x");
        fault(3, "   ");
        fault(6, "5;p   0");
        fault(6, "5;p   ");
        fault(8, "5;p1;1: 1");
        fault(1, "5x.61");
    }

    // Letters of a longer text ahead of it are no letters of this one.
    private void theEnd() {
        String text = "12.60;p1,l9;20:01,9:1";
        String whole = " 8 11 13 14 16 17 19 21 ";
        for (int n = 0; n <= text.length(); n++) {
            int due = whole.contains(" " + n + " ") ? 2 : -20 - n;
            edge.boat(text).types(text.substring(0, n)).is(due, "canal");
        }
    }

    private void blanks() {
        edge.terms("blanks count for nothing, but end a number.");
        Boat b = reads(2, "  12  .  3 ;  p  4 , l 5 ;  6  :  0  1 ,  17  ");
        b.is(12, "ice", 0).is(3, "ice", 1).is(4, "of", 0, 1).is(1, "of", 1, 0).is(6, "at", 0, 0).is(3, "at", 0, 1).is(17, "at", 1, 0);
        fault(2, "1 2;p1");
        fault(2, "6 1;p1");
        fault(3, "60 0;p1");
        fault(5, "5;p1 2");
        fault(7, "5;p1;1 2");
        fault(7, "5;p1;2 1");
        fault(2, "1 ");
    }

    private void canal() {
        edge.promise(11, "THE TAPE, which is empty then, is A CANAL: how many CELLS. A FAULT (all else stays).");
        edge.boat().types("5.6;p1").is(2, "canal").is(-20, "canal").is(2, "count", 0).is(1, "type", '5');
        edge.boat().types("5x").is(-21, "canal").is(-20, "canal").is(0, "count", 0).is(1, "type", '5').types(";p1").is(1, "canal");
        String was = Probe.of(Worlds.tapeless(edge));
        String[] wrong = {"", "x", "61", "5;p0", "1.2.3;p1,p2;3:01x", "0.0.0.0;c1,c2;5:01,21", "5;p1;1:1", "   "};
        int[] place = {0, 0, 0, 3, 16, 19, 7, 3};
        for (int k = 0; k < wrong.length; k++) {
            Boat b = Worlds.tapeless(edge).types(wrong[k]).is(-20 - place[k], "canal");
            edge.same("all else stays behind '" + wrong[k] + "'", Probe.of(b), was);
        }
        Boat twelve = edge.boat().types("60.60.60.60.60.60.60.60.60.60.60.60;s9,s9,s9,s9,s9,s9;20:012345,20:012345,20:012345,");
        twelve.types("20:012345,20:012345").is(12, "canal").is(720, "count", 6).is(100, "count", 7).is(31, "of", 5, 2);
    }

    private void fullTape() {
        edge.boat().types(repeated(" ", 110)).is(-130, "canal");
        edge.boat().types(repeated(" ", 109)).is(-129, "canal");
        edge.boat().types(repeated(" ", 109) + "x").is(-129, "canal");
        edge.boat().types(repeated(" ", 109) + "5").is(-130, "canal");
        edge.boat().types(repeated(" ", 106) + "5;p1").is(1, "canal").is(5, "ice", 0);
        edge.boat().types("5;p1;3:0" + repeated(" ", 102)).is(1, "canal").is(1, "at", 0, 1);
        edge.boat().types(repeated(" ", 106) + "5;p0").is(-129, "canal");
        // The end at the tape's own end, wherever a letter is wanted.
        String[] ends = {"5", "5.", "5;", "5;p", "5;p1,", "5;p1;", "5;p1;3:", "5;p1;3,", "5;p1;3:0,"};
        for (String end : ends) {
            edge.boat().types(repeated(" ", 110 - end.length()) + end).is(-130, "canal");
        }
        String[] wholes = {"5;p1", "5;p1;3", "5;p1;20", "5;p1;3:0", "5;p1;1,1,1,1,1", "5;p1;1,1,1,1,1:0"};
        for (String all : wholes) {
            edge.boat().types(repeated(" ", 110 - all.length()) + all).is(1, "canal");
        }
        // A letter that found no place is none.
        edge.boat().types(repeated(" ", 106) + "5;p1").is(FULL, "type", 'x').is(1, "canal").is(NONE, "undo");
    }
}
