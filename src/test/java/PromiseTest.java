/** The document's promises, one method each; the answers are worked out by hand from its words. */
public final class PromiseTest {
    private static final int BAD = -1, NOT = -2, FULL = -3, NONE = -4, NULL = -11, CAST = -12, INDEX = -13, SIZE = -14;
    private static final int LEAST = Integer.MIN_VALUE, MOST = Integer.MAX_VALUE;
    private static final Dues DUES = new Dues();

    public static void main(String[] args) {
        newObject();
        cell();
        person();
        saying();
        ice();
        of();
        at();
        rocks();
        frost();
        type();
        canal();
        canalFaults();
        canalBlanks();
        count();
        say();
        sayJuice();
        sayFull();
        thaw();
        mind();
        drift();
        undo();
        seed();
        rock();
        next();
        greedy();
        through();
        plan();
        crew();
        minds();
        once();
        sway();
        boats();
        ring();
        enough();
        sick();
        image();
        felt();
        film();
        sheet();
        drop();
        item();
        copy();
        nothingForetoldChanges();
        DUES.end();
    }

    private static void due(String call, long got, long want) {
        DUES.due(call, got, want);
    }

    private static int read(GossipBoat x, String text) {
        for (int k = 0; k < text.length(); k++) {
            x.type(text.charAt(k));
        }
        return x.canal();
    }

    private static GossipBoat of(String text) {
        GossipBoat x = new GossipBoat();
        due("canal " + text, read(x, text) > 0 ? 1 : 0, 1);
        return x;
    }

    private static void counts(String where, GossipBoat x, int... due) {
        for (int k = 0; k < due.length; k++) {
            due(where + ": count(" + k + ")", x.count(k), due[k]);
        }
    }

    private static void newObject() {
        GossipBoat x = new GossipBoat();
        counts("1 new", x, 0, 0, 0, 0, 0, 1, 0, 0, 0);
        due("1 draw", x.seed(0), 1);
        due("1 tape", x.type('1'), 1);
        for (int s = 0; s < 4; s++) {
            due("1 sheet", x.drop(s), NULL);
        }
        due("1 image", x.restore(), NONE);
    }

    private static void cell() {
        GossipBoat x = new GossipBoat();
        due("2 below", x.cell(-1), BAD);
        due("2 above", x.cell(61), BAD);
        for (int c = 0; c < 12; c++) {
            due("2 cell", x.cell(c * 5), c);
            due("2 ice", x.ice(c), c * 5);
        }
        due("2 full", x.cell(0), FULL);
        due("2 bad goes first", x.cell(61), BAD);
        due("2 most", new GossipBoat().cell(60), 0);
        counts("2 refused", x, 12, 0, 0, 0);

        GossipBoat y = of("0;p1");
        due("2 through", y.say(NONE), 1);
        due("2 known", y.count(8), 1);
        due("2 refused leaves what is known", y.cell(61), BAD);
        due("2 known yet", y.count(8), 1);
        due("2 behind the end", y.cell(5), 1);
        counts("2 the boat is ahead of the new one", y, 2, 1, 0, 1, 1, 1, 5, 0, 0);
    }

    private static void person() {
        GossipBoat x = new GossipBoat();
        due("3 kind", x.person(-1, 1), BAD);
        due("3 kind", x.person(5, 1), BAD);
        due("3 weight", x.person(0, 0), BAD);
        due("3 weight", x.person(0, 10), BAD);
        due("3 first", x.person(4, 9), 0);
        due("3 saying", x.saying(3, 1), 0);
        for (int p = 1; p < 6; p++) {
            due("3 person", x.person(p - 1, p), p);
            due("3 against all", x.of(p, 2), 0);
        }
        due("3 who is for it stays", x.at(0, 1), 1);
        due("3 full", x.person(0, 1), FULL);
        due("3 bad goes first", x.person(0, 10), BAD);
        x.say(NONE);
        due("3 refused leaves what is known", x.person(0, 1), FULL);
        due("3 known", x.count(8), 1);
        GossipBoat y = of("1;p1");
        y.say(NONE);
        y.person(0, 1);
        due("3 leaves nothing to be undone", y.undo(), NONE);
    }

    private static void saying() {
        GossipBoat x = new GossipBoat();
        due("4 set beyond people", x.saying(1, 1), BAD);
        due("4 nobody", x.saying(20, 0), 0);
        x.person(0, 1);
        x.person(0, 1);
        due("4 juice", x.saying(-1, 0), BAD);
        due("4 juice", x.saying(21, 0), BAD);
        due("4 set", x.saying(1, -1), BAD);
        due("4 set", x.saying(1, 4), BAD);
        for (int s = 1; s < 5; s++) {
            due("4 saying", x.saying(s, s - 1), s);
            due("4 juice", x.at(s, 0), s);
            due("4 fors", x.at(s, 1), s - 1);
        }
        due("4 full", x.saying(1, 0), FULL);
        due("4 bad goes first", x.saying(1, 4), BAD);
        GossipBoat y = of("1;p1");
        y.say(NONE);
        y.saying(0, 1);
        due("4 leaves nothing to be undone", y.undo(), NONE);
    }

    private static void ice() {
        GossipBoat x = of("7.60.0;p1");
        due("5", x.ice(0), 7);
        due("5", x.ice(1), 60);
        due("5", x.ice(2), 0);
        due("5", x.ice(3), BAD);
        due("5", x.ice(-1), BAD);
        due("5", x.ice(LEAST), BAD);
        due("5", x.ice(MOST), BAD);
    }

    private static void of() {
        GossipBoat x = of("1;p1,l2,d3,s4,c5;1:0,1:01,1,1:4");
        for (int p = 0; p < 5; p++) {
            due("6 kind", x.of(p, 0), p);
            due("6 weight", x.of(p, 1), p + 1);
        }
        due("6 sayings", x.of(0, 2), 3);
        due("6 sayings", x.of(1, 2), 2);
        due("6 sayings", x.of(2, 2), 0);
        due("6 sayings", x.of(4, 2), 8);
        due("6", x.of(5, 0), BAD);
        due("6", x.of(-1, 0), BAD);
        due("6", x.of(0, 3), BAD);
        due("6", x.of(0, -1), BAD);
    }

    private static void at() {
        GossipBoat x = of("9;p3,l4,c2;9:02,0:0");
        due("7 juice", x.at(0, 0), 9);
        due("7 fors", x.at(0, 1), 5);
        due("7 for: plain 3, child 2 and 3 more", x.at(0, 2), 8);
        due("7 against: loud 4 and a quarter of 9", x.at(0, 3), 6);
        due("7 they rock without juice, too", x.at(1, 2), 3);
        due("7 they rock without juice, too", x.at(1, 3), 7);
        due("7 but not the boat", x.rock(1), 0);
        due("7", x.at(2, 0), BAD);
        due("7", x.at(-1, 0), BAD);
        due("7", x.at(0, 4), BAD);
        due("7", x.at(0, -1), BAD);
    }

    private static void rocks() {
        GossipBoat x = of("60;p5,l5,d5,s5,c5;6:0,5:012,20:3,0:34");
        int[][] due = {{5, 6, 5, 6, 8}, {5, 6, 0, 6, 3}, {5, 10, 5, 20, 8}, {5, 5, 0, 5, 3}};
        for (int s = 0; s < 4; s++) {
            for (int p = 0; p < 5; p++) {
                due("8 rocks(" + p + ", " + s + ")", x.rocks(p, s), due[s][p]);
            }
        }
        x.say(NONE);
        due("8 child in an odd minute", x.rocks(4, 0), 5);
        due("8 child in an odd minute, no juice", x.rocks(4, 3), 0);
        due("8 juice grew to 6", x.rocks(2, 1), 5);
        GossipBoat y = of("60;s3,p1,p1;8:12");
        due("8 stubborn, alone against it", y.rocks(0, 0), 10);
        y.mind(2, 0);
        due("8 stubborn, not alone", y.rocks(0, 0), 5);
        y.mind(0, 0);
        y.mind(1, 0);
        due("8 stubborn, alone for it", y.rocks(0, 0), 10);
        due("8", y.rocks(3, 0), BAD);
        due("8", y.rocks(-1, 0), BAD);
        due("8", y.rocks(0, 1), BAD);
        due("8", y.rocks(0, -1), BAD);
    }

    private static void frost() {
        GossipBoat x = of("7.0;p1");
        due("9 was", x.frost(9), 1);
        due("9 bad", x.frost(10), BAD);
        due("9 bad", x.frost(-1), BAD);
        due("9 thicker", x.say(NONE), 0);
        due("9 ice", x.ice(0), 16);
        due("9 was", x.frost(0), 9);
        x.say(NONE);
        due("9 no frost", x.ice(0), 16);
        due("9 was", x.frost(5), 0);
        x.undo();
        due("9 is not undone", x.count(5), 5);
    }

    private static void type() {
        GossipBoat x = new GossipBoat();
        due("10", x.type(31), BAD);
        due("10", x.type(127), BAD);
        due("10", x.type(MOST), BAD);
        for (int k = 1; k <= 110; k++) {
            due("10", x.type(k == 110 ? 126 : 32), k);
        }
        due("10 full", x.type(32), FULL);
        due("10 bad goes first", x.type(31), BAD);
        due("10 what is behind blanks", x.canal(), -20 - 109);
        due("10 empty then", x.type(32), 1);
    }

    private static void canal() {
        GossipBoat x = new GossipBoat();
        x.frost(7);
        x.seed(99);
        x.cell(3);
        x.cell(0);
        x.person(3, 3);
        x.saying(9, 1);
        x.say(0);
        due("11", read(x, "0.60.05;c9,s1;20:01,0,07:1"), 3);
        counts("11", x, 3, 2, 3, 0, 0, 7, 65, 27, 0);
        due("11 nothing to be undone", x.undo(), NONE);
        due("11 draw stays", x.seed(99), 99);
        due("11 kind", x.of(0, 0), 4);
        due("11 weight", x.of(0, 1), 9);
        due("11 kind", x.of(1, 0), 3);
        due("11 fors", x.at(0, 1), 3);
        due("11 fors", x.at(1, 1), 0);
        due("11 fors", x.at(2, 1), 2);
        due("11 juice", x.at(2, 0), 7);
        x.say(NONE);
        due("11 again", read(x, "4;p1"), 1);
        counts("11 in place of all", x, 1, 1, 0, 0, 0, 7, 4, 0, 0);
        due("11 a new saying is nobody's", x.saying(1, 0), 0);
        due("11 fors", x.at(0, 1), 0);
        due("11 most", read(x, "1.2.3.4.5.6.7.8.9.10.11.12;p1,l2,d3,s4,c5,p6;1,2,3,4,5:012345"), 12);
        counts("11 most", x, 12, 6, 5, 0, 0, 7, 78, 15, 0);
    }

    private static void fault(String text, int place) {
        GossipBoat x = of("7.8;p3,l4;9:0");
        x.say(0);
        due("11 fault in '" + text + "'", read(x, text), -20 - place);
        counts("11 all else stays", x, 2, 2, 1, 0, 1, 1, 10, 7, 1);
        due("11 tape is empty", x.type('1'), 1);
        due("11 undone yet", x.undo(), 0);
    }

    private static void canalFaults() {
        fault("", 0);
        fault("p", 0);
        fault("1", 1);
        fault("61;p1", 0);
        fault("1.99", 2);
        fault("601;p1", 2);
        fault("007;p1", 2);
        fault("611;p1", 0);
        fault("1.;p1", 2);
        fault("1..1;p1", 2);
        fault("1,1;p1", 1);
        fault("1.1.1.1.1.1.1.1.1.1.1.1.1;p1", 23);
        fault("1;", 2);
        fault("1;P1", 2);
        fault("1;11", 2);
        fault("1;p", 3);
        fault("1;p0", 3);
        fault("1;p11", 4);
        fault("1;pp", 3);
        fault("1;p1,", 5);
        fault("1;p1.p1", 4);
        fault("1;p1,p1,p1,p1,p1,p1,p1", 19);
        fault("1;p1;", 5);
        fault("1;p1;;", 5);
        fault("1;p1;21", 5);
        fault("1;p1;201", 7);
        fault("1;p1;1:", 7);
        fault("1;p1;1:,", 7);
        fault("1;p1;1:1", 7);
        fault("1;p1,p1;1:00", 11);
        fault("1;p1,p1;1:10", 11);
        fault("1;p1,p1;1:012", 12);
        fault("1;p1,p1,p1,p1,p1,p1;1:0123455", 28);
        fault("1;p1,p1;1:0:1", 11);
        fault("1;p1,p1;1:0,", 12);
        fault("1;p1,p1;1:0;", 11);
        fault("1;p1;1,1,1,1,1,1", 14);
        fault("1;p1;1,1,1,1,1:0,1", 16);
    }

    private static void canalBlanks() {
        GossipBoat x = of(" 1 2 ".replace("1 2", "12") + " . 3 ; p 4 , l 5 ; 6 : 0 1 , 7 ");
        counts("11 blanks", x, 2, 2, 2, 0, 0, 1, 15, 13, 0);
        due("11 blanks", x.at(0, 1), 3);
        fault("   ", 3);
        fault("  61", 2);
        fault("1 2;p1", 2);
        fault("1 ", 2);
        fault("1;p1 ;1  2", 9);
        fault("1; p  0", 6);
        fault("1;p1;1: 1", 8);
        fault("1;p1  x", 6);
        fault("1;p1;3 0", 7);
    }

    private static void count() {
        GossipBoat x = of("5.6.7;p9,p9;4:0,2:0,0");
        counts("12", x, 3, 2, 3, 0, 0, 1, 18, 6, 0);
        x.say(0);
        counts("12", x, 3, 2, 3, 1, 1, 1, 13, 5, 1);
        due("12", x.count(9), BAD);
        due("12", x.count(-1), BAD);
    }

    private static void say() {
        GossipBoat x = of("9.0.60;p3,l4;9:0");
        due("13", x.say(0), 0);
        due("13 9 less 6, 1 of frost", x.ice(0), 4);
        due("13 juice", x.at(0, 0), 7);
        due("13 minute", x.count(4), 1);
        due("13 through the cell", x.say(0), 1);
        due("13 not below 0", x.ice(0), 0);
        due("13 the next one is as it was", x.ice(1), 0);
        due("13 a cell without ice wants a minute", x.say(NONE), 2);
        due("13 one cell a minute", x.ice(2), 60);
        due("13 60 at most", x.say(NONE), 2);
        due("13 60 at most", x.ice(2), 60);
        due("13", x.say(1), BAD);
        due("13", x.say(-1), BAD);
        due("13", x.say(-2), BAD);
        due("13", x.say(-5), BAD);
        due("13 refused is no minute", x.count(4), 4);
        x.frost(9);
        x.thaw(2, 4);
        x.say(0);
        due("13 56 less 6, 9 of frost", x.ice(2), 59);
        x.say(NONE);
        due("13 60 at most", x.ice(2), 60);
    }

    private static void sayJuice() {
        GossipBoat x = of("0;p3,l4;3:0,20:0,0:0,1:0");
        due("13", x.say(0), 1);
        due("13 2 less", x.at(0, 0), 1);
        due("13 20 at most", x.at(1, 0), 20);
        due("13 none stays none", x.at(2, 0), 0);
        due("13 1 more", x.at(3, 0), 2);
        due("13 through: the boat stays", x.say(0), 1);
        due("13 0 at least", x.at(0, 0), 0);
        due("13 through: juice changes", x.at(3, 0), 3);
        due("13 through: it is the next minute", x.count(4), 2);
        due("13 nothing said", x.say(NONE), 1);
        due("13 nothing said: none stays none", x.at(0, 0), 0);
        due("13 nothing said: 1 more", x.at(3, 0), 4);
    }

    private static void sayFull() {
        GossipBoat x = of("60;p1");
        for (int k = 0; k < 249; k++) {
            x.drift(40);
        }
        due("13 minute", x.count(4), 9960);
        due("16 full", x.drift(40), FULL);
        due("16 refused changes nothing", x.count(4), 9960);
        due("16 the last one may be", x.drift(39), 0);
        due("13 minute", x.count(4), 9999);
        due("13 full", x.say(NONE), FULL);
        due("13 bad goes first", x.say(0), BAD);
        due("16 full", x.drift(1), FULL);
        due("16 bad goes first", x.drift(41), BAD);
        due("13 foretold all the same", x.greedy(5, 1), 60);
        due("17 undone", x.undo(), 7);
        due("13 the last one", x.say(NONE), 0);
        due("13 minute", x.count(4), 9999);
    }

    private static void thaw() {
        GossipBoat x = of("9.30;p1");
        due("14", x.thaw(1, 10), 20);
        due("14", x.thaw(1, 60), 0);
        due("14 none", x.thaw(1, 1), NOT);
        due("14 cell", x.thaw(2, 1), BAD);
        due("14 cell", x.thaw(-1, 1), BAD);
        due("14 n", x.thaw(1, 0), BAD);
        due("14 n", x.thaw(1, 61), BAD);
        due("14 n", x.thaw(0, LEAST), BAD);
        due("14 refused is nothing to undo", x.count(8), 2);
        due("14 no minute", x.count(4), 0);
        due("14", x.thaw(0, 9), 0);
        due("14 the boat stays", x.count(3), 0);
        due("14 until a minute is over", x.say(NONE), 1);
    }

    private static void mind() {
        GossipBoat x = of("9;p1,p2;5:0,5");
        due("15", x.mind(1, 0), 3);
        due("15", x.mind(0, 0), 2);
        due("15", x.mind(1, 1), 2);
        due("15 this saying alone", x.at(0, 1), 2);
        due("15", x.mind(2, 0), BAD);
        due("15", x.mind(-1, 0), BAD);
        due("15", x.mind(0, 2), BAD);
        due("15", x.mind(0, -1), BAD);
        due("15 no minute", x.count(4), 0);
        due("15 known", x.count(8), 3);
    }

    private static void drift() {
        GossipBoat x = of("60;p3,p4;10:0,10:0");
        due("16", x.drift(0), BAD);
        due("16", x.drift(41), BAD);
        due("16", x.drift(LEAST), BAD);
        // 1 -> 1103527590: 16838, left over by 3: 2, nothing is said.
        due("16", x.drift(1), 0);
        due("16 nothing said", x.ice(0), 60);
        due("16 juice", x.at(0, 0) * 100 + x.at(1, 0), 1111);
        due("16 draw", x.seed(1103527590), 1103527590);
        // -> 377401575: 5758, left over by 3: 1.
        due("16", x.drift(1), 0);
        due("16 60 less 6, 1 of frost", x.ice(0), 55);
        due("16 juice", x.at(0, 0) * 100 + x.at(1, 0), 1209);
        due("16 draw", x.seed(377401575), 377401575);
        due("16 each may be undone", x.count(8), 2);
        x.drift(9);
        due("16 8 are known", x.count(8), 8);
        GossipBoat y = new GossipBoat();
        due("16 nobody, nothing", y.drift(3), 0);
        due("16 minutes", y.count(4), 3);
        due("16 drawn all the same", y.seed(0) == 1 ? 1 : 0, 0);
    }

    private static void undo() {
        GossipBoat x = of("9.9;p3,l4;9:0,5");
        due("17 none", x.undo(), NONE);
        x.say(0);
        x.thaw(1, 5);
        x.mind(1, 1);
        x.seed(77);
        x.drift(1);
        x.seed(5);
        due("17", x.undo(), 3);
        due("17 draw as ahead of it, whatever was told since", x.seed(6), 77);
        due("17", x.undo(), 2);
        due("17 mind", x.at(1, 1), 0);
        due("17 draw", x.seed(6), 1);
        due("17", x.undo(), 1);
        due("17 thaw", x.ice(1), 9);
        due("17", x.undo(), 0);
        due("17 ice", x.ice(0), 9);
        due("17 juice", x.at(0, 0), 9);
        due("17 juice", x.at(1, 0), 5);
        due("17 minute", x.count(4), 0);
        due("17 none", x.undo(), NONE);

        GossipBoat y = of("0.0.0.0.0.0.0.0.0.0.0.0;p1");
        for (int k = 0; k < 10; k++) {
            y.say(NONE);
        }
        for (int left = 7; left >= 0; left--) {
            due("17 8 are known", y.undo(), left);
            due("17 boat", y.count(3), left + 2);
        }
        due("17 older ones are lost", y.undo(), NONE);
        y.say(NONE);
        due("17 known anew", y.count(8), 1);
        due("17", y.undo(), 0);
        due("17 boat", y.count(3), 2);
    }

    private static void seed() {
        GossipBoat x = new GossipBoat();
        due("18", x.seed(-1), BAD);
        due("18", x.seed(LEAST), BAD);
        due("18 was", x.seed(MOST), 1);
        due("18 was", x.seed(0), MOST);
        x.drift(1);
        due("18 0 times and 12345 more", x.seed(MOST), 12345);
        x.drift(1);
        // -1 times 1103515245 and 12345 more, by its lowest 31 bits
        due("18 lowest 31 bits", x.seed(0), (int) ((long) MOST * 1103515245L + 12345L & 0x7fffffffL));
    }

    private static void rock() {
        GossipBoat x = of("9;p3,l4;9:0,9,9:01,0:0,1:1");
        due("19 twice the lesser", x.rock(0), 6);
        due("19 nobody for it", x.rock(1), 0);
        due("19 nobody against it", x.rock(2), 0);
        due("19 no juice", x.rock(3), 0);
        due("19 a little juice", x.rock(4), 6);
        due("19", x.rock(5), BAD);
        due("19", x.rock(-1), BAD);
        due("19 NONE is no saying here", x.rock(NONE), BAD);
    }

    private static void next() {
        GossipBoat x = new GossipBoat();
        due("20 none", x.next(0), NONE);
        due("20 none", x.next(1), NONE);
        due("20 bad", x.next(2), BAD);
        GossipBoat y = of("9;p3,p4,p5;5:0,5:2,5:1,5:01");
        due("20 of like ones the first", y.next(0), 1);
        due("20 by how much", y.next(1), 10);
        due("20", y.next(-1), BAD);
        GossipBoat z = of("9;p3;5,5:0");
        due("20 nothing rocks: the first", z.next(0), 0);
        due("20 nothing rocks", z.next(1), 0);
    }

    private static void greedy() {
        GossipBoat x = of("9.9;p3,l4;9:0");
        int[][] due = {{0, 9}, {0, 4}, {1, 9}, {1, 4}, {2, 0}, {2, 0}};
        for (int n = 0; n < due.length; n++) {
            due("21 where", x.greedy(n, 0), due[n][0]);
            due("21 ice", x.greedy(n, 1), due[n][1]);
        }
        due("21", x.greedy(99, 0), 2);
        due("21", x.greedy(100, 0), BAD);
        due("21", x.greedy(-1, 0), BAD);
        due("21", x.greedy(0, 2), BAD);
        due("21", x.greedy(0, -1), BAD);
        GossipBoat y = of("50.0;p3");
        due("21 nothing said", y.greedy(7, 1), 57);
        due("21 nothing said", y.greedy(99, 1), 60);
    }

    private static void through() {
        due("22 no canal", new GossipBoat().through(), 0);
        due("22", of("9.9;p3,l4;9:0").through(), 4);
        due("22 no ice", of("0.0.0;p1").through(), 3);
        due("22 none", of("7;p1").through(), NONE);
        GossipBoat x = of("7;p1");
        x.frost(0);
        x.thaw(0, 7);
        due("22 thawed", x.through(), 1);
        GossipBoat y = of("60;p3,p4;20:0,20:0");
        y.frost(5);
        due("22 one of ice a minute until the juice is gone, which comes first", y.through(), through(60, 5));
        throughAtItsEdge();
    }

    // The least ice of the last cell by which it is no more to be foretold: one minute later it is, by 99.
    private static void throughAtItsEdge() {
        int ice = 0;
        GossipBoat x = edge("60.60.60.60.60.60.60." + ice, 8);
        while (ice < 60 && x.through() != NONE) {
            ice++;
            x = edge("60.60.60.60.60.60.60." + ice, 8);
        }
        due("22 an edge is found", x.through(), NONE);
        x.say(x.next(0));
        due("22 99 are foretold", x.through(), 99);
        due("22 behind them, as by greedy", x.greedy(99, 0), 8);
        due("22 and not ahead of them", x.greedy(98, 0), 7);
    }

    // Three loud sayings keep one another in juice for ever.
    private static GossipBoat edge(String cells, int frost) {
        GossipBoat x = of(cells + ";l3,l1;20:0,20:0,20:0");
        x.frost(frost);
        return x;
    }

    // Two like sayings with 20 of juice that rock by 6, said by turns as long as there is juice.
    private static int through(int ice, int frost) {
        int a = 20, b = 20;
        for (int n = 0; n < 100; n++) {
            if (ice == 0) {
                return n;
            }
            int by = a > 0 || b > 0 ? 6 : 0;
            boolean first = a > 0 || b == 0;
            ice = Math.max(0, ice - by);
            ice = ice == 0 ? 0 : Math.min(60, ice + frost);
            int less = first ? a : b, more = first ? b : a;
            less = Math.max(0, less - 2);
            more = more > 0 ? Math.min(20, more + 1) : 0;
            a = first ? less : more;
            b = first ? more : less;
        }
        return NONE;
    }

    private static void plan() {
        due("23 none", new GossipBoat().plan(1, -1), NONE);
        due("23 none", new GossipBoat().plan(1, 0), NONE);
        due("23 bad goes first", new GossipBoat().plan(0, 0), BAD);
        due("23 bad goes first", new GossipBoat().plan(1, -2), BAD);
        // 0 rocks by 2, 1 by 10 as long as its juice is 6 or more (once, then it must rest).
        GossipBoat x = of("11;p1,p9,d5;9:0,6:2");
        due("23 11 less 2 and 1 of frost, less 10", x.plan(2, -1), 1);
        due("23 both orders do: the first one", x.plan(2, 0), 0);
        due("23", x.plan(2, 1), 1);
        due("23 not so many", x.plan(2, 2), NONE);
        due("23 not so many", x.plan(2, MOST), NONE);
        due("23 how far", x.plan(1, -1), 0);
        due("23 least ice", x.plan(1, 0), 1);
        due("23", x.plan(4, -1), 1);
        due("23", x.plan(5, 0), BAD);
        due("23", x.plan(0, 0), BAD);
        due("23", x.plan(1, -2), BAD);
        GossipBoat y = of("60;p1,p1;2,9:0");
        due("23 one more than once", y.plan(3, 0) * 100 + y.plan(3, 1) * 10 + y.plan(3, 2), 111);
    }

    private static void crew() {
        GossipBoat x = of("9;p3,p3,p9,s2;8:01,0:0");
        due("24 one rocks nothing", x.crew(0, 1, 0), 0);
        due("24 the least set", x.crew(0, 1, 1), 1);
        due("24 for 3 with 9, or with the stubborn, alone 8: the least", x.crew(0, 2, 0), 6);
        due("24 the least set", x.crew(0, 2, 1), 5);
        due("24 3 and 3 against 9", x.crew(0, 3, 0), 12);
        due("24 which", x.crew(0, 3, 1), 7);
        due("24 all", x.crew(0, 4, 0), 12);
        due("24 all", x.crew(0, 4, 1), 15);
        due("24 no juice", x.crew(1, 2, 0), 0);
        due("24 no juice: the least set", x.crew(1, 2, 1), 3);
        due("24 not so many", x.crew(0, 5, 0), NONE);
        due("24 not so many", x.crew(0, 6, 1), NONE);
        due("24", x.crew(0, 7, 0), BAD);
        due("24", x.crew(0, 0, 0), BAD);
        due("24", x.crew(2, 1, 0), BAD);
        due("24", x.crew(-1, 1, 0), BAD);
        due("24", x.crew(0, 1, 2), BAD);
        due("24", x.crew(0, 1, -1), BAD);
        GossipBoat y = of("9;s4,p9,p9,p3;8:012");
        due("24 the stubborn is alone once the others are ashore", y.crew(0, 2, 0), 6);
        GossipBoat z = of("9;s4,l1,p9;8:01");
        due("24 alone: 12 against 9", z.crew(0, 2, 0), 18);
        due("24 which", z.crew(0, 2, 1), 5);
    }

    private static void minds() {
        GossipBoat x = of("9;p3,p4,p5;8,8:0,8:2,0");
        due("25 who", x.minds(0, 0), 2);
        due("25 by how much", x.minds(0, 1), 10);
        due("25 of 0 alone: 1 or 2 would make it 10, the first", x.minds(1, 0), 1);
        due("25", x.minds(1, 1), 10);
        due("25 none: 10 is most", x.minds(2, 0), NONE);
        due("25 the first one", of("9;p9,p1;8").minds(0, 0), 0);
        due("25 none", x.minds(2, 1), NONE);
        due("25 none: no juice", x.minds(3, 0), NONE);
        due("25", x.minds(4, 0), BAD);
        due("25", x.minds(-1, 0), BAD);
        due("25", x.minds(0, 2), BAD);
        due("25", x.minds(0, -1), BAD);
    }

    private static void once() {
        due("26 none", new GossipBoat().once(-1), NONE);
        due("26 none", new GossipBoat().once(0), NONE);
        due("26 bad goes first", new GossipBoat().once(-2), BAD);
        // 1 rocks by 10 in minute 0 (its child is loud enough then), 0 always by 2.
        GossipBoat x = of("10.2;p1,c7,p9;9:0,6:1");
        due("26 how far", x.once(-1), 2);
        due("26 first", x.once(0), 1);
        due("26 then", x.once(1), 0);
        due("26 not so many", x.once(2), NONE);
        due("26 not so many", x.once(MOST), NONE);
        due("26", x.once(-2), BAD);
        due("26", x.once(LEAST), BAD);
        GossipBoat y = of("60;p1,p1;5:0,5:0,5:0,5:0,5:0");
        due("26 all alike: rising", y.once(0) * 10000 + y.once(1) * 1000 + y.once(2) * 100 + y.once(3) * 10 + y.once(4), 1234);
        due("26", y.once(-1), 0);
    }

    private static void sway() {
        GossipBoat x = of("9;p3,p4,p5;8,0:0");
        due("27 one will do", x.sway(0, 6, 0), 1);
        due("27 the least set", x.sway(0, 6, 1), 1);
        due("27 8 wants another one", x.sway(0, 8, 1), 2);
        due("27 10", x.sway(0, 10, 1), 4);
        due("27 more than there is", x.sway(0, 11, 0), NONE);
        due("27 more than there is", x.sway(0, 11, 1), NONE);
        due("27 no juice", x.sway(1, 1, 0), NONE);
        x.mind(2, 0);
        due("27 it does so now", x.sway(0, 10, 0), 0);
        due("27 it does so now", x.sway(0, 10, 1), 0);
        due("27 most r", x.sway(0, 200, 0), NONE);
        due("27", x.sway(0, 201, 0), BAD);
        due("27", x.sway(0, 0, 0), BAD);
        due("27", x.sway(2, 1, 0), BAD);
        due("27", x.sway(-1, 1, 0), BAD);
        due("27", x.sway(0, 1, 2), BAD);
        GossipBoat y = of("9;p1,p1,p1,p9;8:0123");
        due("27 one of weight 9, or three of 1", y.sway(0, 6, 0), 1);
        due("27 the fewest go ahead of the least set", y.sway(0, 6, 1), 8);
    }

    private static void boats() {
        GossipBoat none = new GossipBoat();
        due("28 nobody", none.boats(0), 0);
        due("28 nobody", none.boats(1), 0);
        due("28 bad", none.boats(2), BAD);
        due("28 bad", none.boats(-1), BAD);
        GossipBoat x = of("9;p3,p4,p5,p6;8:01,8:0");
        // 3 and 5 with 4 and 6: 6 and 8; 3 and 6 with 4 and 5: 6 and 8; 3 and 4 by the other saying with 5 and 6: 6 and 0.
        due("28 how much", x.boats(1), 6);
        due("28 the least set", x.boats(0), 5);
        GossipBoat y = of("9;p3,p4,p5,p6;8:0,8:2");
        due("28 another saying in either boat", y.boats(1), 6);
        due("28 the least set", y.boats(0), 3);
        GossipBoat z = of("9;p3,p4;8:0");
        due("28 too few for two", z.boats(1), 0);
        due("28 too few for two", z.boats(0), 0);
    }

    private static void ring() {
        GossipBoat x = new GossipBoat();
        due("29 two minutes, so that evenness is alike", x.ring(0), 2);
        due("29 between", x.ring(1), 2);
        due("29 bad", x.ring(2), BAD);
        due("29 bad", x.ring(-1), BAD);
        GossipBoat y = of("58;p1");
        due("29 60 from minute 2 on: as behind 2", y.ring(0), 4);
        due("29 between", y.ring(1), 2);
        y.frost(0);
        due("29 as now", y.ring(0), 2);
        // Four sayings without juice are like one; with juice of a single one that falls: 3, 1, 0, 0, 0.
        GossipBoat z = of("0;p1;3");
        due("29 juice must be alike", z.ring(0), 4);
        due("29 between", z.ring(1), 2);
        // 5, then 20 is reached by the other ones before it comes round
        GossipBoat v = of("0;p1;19,20");
        due("29 juice: 19 20, 17 20, .., 1 20, 0 20, 0 20, 0 20", v.ring(0), 12);
        due("29 between", v.ring(1), 2);
        ringAtItsEdge();
    }

    private static void ringAtItsEdge() {
        int ice = 0;
        String cells = "60.60.60.60.60.60.60.60.60.60.60.";
        GossipBoat x = edge(cells + ice, 9);
        while (ice < 60 && x.ring(0) != NONE) {
            ice++;
            x = edge(cells + ice, 9);
        }
        due("29 an edge is found", x.ring(0), NONE);
        due("29 none", x.ring(1), NONE);
        for (int k = 0; k < 40 && x.ring(0) == NONE; k++) {
            x.say(x.next(0));
        }
        due("29 200 are foretold", x.ring(0), 200);
        due("29 three sayings come round in an even number of minutes", x.ring(1), 6);
    }

    private static void enough() {
        GossipBoat x = of("10.0;p9,l3,d9;5:1,0:2,7");
        due("30 loud: 3 and a quarter of 8", x.enough(0), 8);
        due("30 dull: juice of 6", x.enough(1), 6);
        due("30 none", x.enough(2), NONE);
        due("30", x.enough(3), BAD);
        due("30", x.enough(-1), BAD);
        x.thaw(0, 9);
        due("30 a little ice wants a little juice", x.enough(0), 1);
        x.thaw(0, 1);
        due("30 no ice wants none", x.enough(2), 0);
        x.say(NONE);
        due("30 no ice", x.enough(0), 0);
        x.say(NONE);
        due("30 through", x.enough(0), NONE);
        due("30 bad goes first", x.enough(3), BAD);
        GossipBoat y = of("16;p9,l3;5:1");
        due("30 3 and a quarter of 20", y.enough(0), 20);
        GossipBoat z = of("17;p9,l3;5:1");
        due("30 20 at most", z.enough(0), NONE);
    }

    private static void sick() {
        GossipBoat x = of("6.0;p3,l4;9:0");
        due("31 both must be well: 7 of 10 each", x.sick(0, 3, 0), 49);
        due("31", x.sick(0, 3, 1), 100);
        due("31 lowest terms: 36 of 100", x.sick(0, 4, 0), 9);
        due("31 lowest terms", x.sick(0, 4, 1), 25);
        due("31 nobody sick", x.sick(0, 0, 0), 1);
        due("31 nobody sick", x.sick(0, 0, 1), 1);
        due("31 all sick", x.sick(0, 10, 0), 0);
        due("31 all sick", x.sick(0, 10, 1), 1);
        due("31", x.sick(0, 11, 0), BAD);
        due("31", x.sick(0, -1, 0), BAD);
        due("31", x.sick(1, 1, 0), BAD);
        due("31", x.sick(-1, 1, 0), BAD);
        due("31", x.sick(0, 1, 2), BAD);
        due("31", x.sick(0, 1, -1), BAD);
        x.thaw(0, 6);
        due("31 no ice", x.sick(0, 7, 0), 1);
        due("31 no ice", x.sick(0, 7, 1), 1);
        x.say(NONE);
        x.say(NONE);
        due("31 through", x.sick(0, 3, 0), 0);
        due("31 through", x.sick(0, 3, 1), 1);
        // 12 alone against 9 is 18; with the other one 6 and 3 against 9 are 18, too; without the plain one nothing.
        GossipBoat y = of("18;s4,l1,p9;8:01");
        due("31 stubborn and plain: 81 of 100", y.sick(0, 1, 0), 81);
        due("31", y.sick(0, 1, 1), 100);
        GossipBoat z = new GossipBoat();
        z.saying(5, 0);
        z.cell(0);
        due("31 nobody there", z.sick(0, 5, 0), 1);
        due("31 nobody there", z.sick(0, 5, 1), 1);
    }

    private static void image() {
        GossipBoat x = of("9.9;p3,l4;9:0");
        due("33 none", x.restore(), NONE);
        x.frost(3);
        x.seed(42);
        x.say(0);
        due("32", x.image(), 1);
        for (int k = 0; k < 9; k++) {
            x.drift(1);
        }
        x.frost(9);
        x.cell(4);
        x.person(0, 5);
        x.saying(7, 4);
        x.sheet(2, 1, 5);
        x.type('7');
        for (int again = 0; again < 2; again++) {
            due("33", x.restore(), 1);
            counts("33", x, 2, 2, 1, 0, 1, 3, 15, 7, 1);
            due("33 draw", x.seed(1), 42);
            due("33 what may be undone", x.undo(), 0);
            due("33 ice", x.ice(0), 9);
            due("33 juice", x.at(0, 0), 9);
            due("33 minute", x.count(4), 0);
            due("33 mind", x.mind(1, 0), 3);
        }
        due("33 tape stays", x.type('7'), 2);
        due("33 sheets stay", x.drop(2), 5);
        x.image();
        x.say(NONE);
        x.restore();
        due("32 the latest one counts", x.at(0, 1), 3);
        GossipBoat y = of("1.2.3.4.5.6.7.8.9.10.11.12;p1,l2,d3,s4,c5,l6;1,2,3,4,5:012345");
        y.image();
        read(y, "1;p1");
        y.restore();
        due("33 the last cell", y.ice(11), 12);
        due("33 the last person", y.of(5, 0) * 10 + y.of(5, 1), 16);
        due("33 the last saying", y.at(4, 0) * 100 + y.at(4, 1), 563);
    }

    private static void felt() {
        GossipBoat x = of("9;p3,p4,p7;8,0,8");
        due("34 null", x.felt(0, 2, 0, 1, 0), NULL);
        x.sheet(0, 2, 24);
        x.item(0, 2, 1, 14);
        due("34 14: {2} against {0, 1}, and the other way round", x.felt(0, 2, 0, 1, 0), 2);
        due("34 the least", x.felt(0, 2, 0, 1, 1), 3);
        x.item(0, 2, 1, 0);
        due("34 0: nobody, everybody", x.felt(0, 2, 0, 1, 0), 2);
        due("34 the least", x.felt(0, 2, 0, 1, 1), 0);
        x.item(0, 2, 1, 7);
        due("34 none", x.felt(0, 2, 0, 1, 0), 0);
        due("34 none", x.felt(0, 2, 0, 1, 1), NONE);
        x.item(0, 2, 0, 1);
        due("34 no juice, but 7", x.felt(0, 2, 0, 1, 0), 0);
        x.item(0, 2, 1, 0);
        due("34 no juice: all sets", x.felt(0, 2, 0, 1, 0), 8);
        x.item(0, 2, 2, 2);
        x.item(0, 2, 3, 6);
        due("34 both", x.felt(0, 2, 0, 2, 0), 2);
        due("34 both", x.felt(0, 2, 0, 2, 1), 1);
        due("34 from item 2 on", x.felt(0, 2, 2, 1, 0), 2);
        due("34 who is for it now is nothing to it", x.mind(0, 2) >= 0 ? x.felt(0, 2, 2, 1, 0) : 0, 2);
        x.item(0, 2, 2, 3);
        due("34 no such saying", x.felt(0, 2, 0, 2, 0), NOT);
        due("34 the first pair alone", x.felt(0, 2, 0, 1, 0), 8);
        x.item(0, 2, 2, -1);
        due("34 no such saying", x.felt(0, 2, 0, 2, 1), NOT);
        due("34 the last items", x.felt(0, 2, 22, 1, 0), 2);
        due("34 index", x.felt(0, 2, 23, 1, 0), INDEX);
        due("34 index", x.felt(0, 2, -1, 1, 0), INDEX);
        due("34 index", x.felt(0, 2, MOST, 5, 0), INDEX);
        due("34 cast", x.felt(0, 1, 23, 1, 0), CAST);
        feltBad(x);
        x.sheet(1, 3, 2);
        x.item(1, 3, 0, 1L << 32);
        due("34 a long is taken whole", x.felt(1, 3, 0, 1, 0), NOT);
        x.item(1, 3, 0, 0);
        x.item(1, 3, 1, (1L << 32) + 14);
        due("34 a long is taken whole", x.felt(1, 3, 0, 1, 0), 0);
        x.sheet(3, 0, 4);
        due("34 index goes ahead of NOT", x.item(3, 0, 0, 9) == 1 ? x.felt(3, 0, 0, 3, 0) : 0, INDEX);
    }

    private static void feltBad(GossipBoat x) {
        due("34 n", x.felt(0, 2, 0, 0, 0), BAD);
        due("34 n", x.felt(0, 2, 0, 6, 0), BAD);
        due("34 what", x.felt(0, 2, 0, 1, 2), BAD);
        due("34 what", x.felt(0, 2, 0, 1, -1), BAD);
        due("34 sheet", x.felt(4, 2, 0, 1, 0), BAD);
        due("34 sheet", x.felt(-1, 2, 0, 1, 0), BAD);
        due("34 lane", x.felt(0, 4, 0, 1, 0), BAD);
        due("34 lane", x.felt(0, -1, 0, 1, 0), BAD);
        due("34 bad goes ahead of null", x.felt(1, 2, 0, 6, 0), BAD);
        due("34 null goes ahead of index", x.felt(1, 2, 99, 1, 0), NULL);
    }

    private static void film() {
        GossipBoat x = of("9.5.0;p1,p1;0,5:0");
        due("35 null", x.film(0, 1, 0, 2, 0), NULL);
        x.sheet(0, 2, 4);
        due("35", x.film(0, 3, 0, 2, 1), 3);
        due("35 item 0 stays, 9 came behind it: a saying that is not there", x.felt(0, 2, 1, 1, 0), NOT);
        due("35 one cell", x.film(2, 1, 0, 2, 0), 1);
        due("35 one cell", x.film(2, 1, 0, 2, 1), 1);
        due("35 0 and 0: all sets", x.felt(0, 2, 0, 1, 0), 4);
        due("35 index", x.film(0, 3, 0, 2, 2), INDEX);
        due("35 refused changes nothing", x.felt(0, 2, 0, 1, 0), 4);
        due("35 index", x.film(0, 1, 0, 2, 4), INDEX);
        due("35 index", x.film(0, 1, 0, 2, -1), INDEX);
        due("35 index", x.film(0, 3, 0, 2, MOST), INDEX);
        due("35 cast", x.film(0, 1, 0, 3, 9), CAST);
        due("35 beyond the last cell", x.film(0, 4, 0, 2, 0), BAD);
        due("35 beyond the last cell", x.film(2, 2, 0, 2, 0), BAD);
        due("35 beyond the last cell", x.film(1, MOST, 0, 2, 0), BAD);
        due("35 n", x.film(0, 0, 0, 2, 0), BAD);
        due("35 cell", x.film(3, 1, 0, 2, 0), BAD);
        due("35 cell", x.film(-1, 1, 0, 2, 0), BAD);
        due("35 sheet", x.film(0, 1, 4, 2, 0), BAD);
        due("35 sheet", x.film(0, 1, -1, 2, 0), BAD);
        due("35 lane", x.film(0, 1, 0, 4, 0), BAD);
        due("35 bad goes ahead of null", x.film(0, 9, 1, 2, 0), BAD);
        due("35 no cells", new GossipBoat().film(0, 1, 0, 0, 0), BAD);
    }

    private static void sheet() {
        GossipBoat x = of("9;p1,p1;0");
        for (int lane = 0; lane < 4; lane++) {
            due("36", x.sheet(lane, lane, 24), 24);
            due("36 lane", x.item(lane, lane, 23, 1), 1);
            due("36 another lane", x.item(lane, (lane + 1) % 4, 0, 1), CAST);
        }
        due("36 new row", x.sheet(0, 0, 2), 2);
        due("36 is of zeros", x.felt(0, 0, 0, 1, 0), 4);
        x.item(0, 0, 1, 9);
        due("36 once more", x.sheet(0, 0, 2), 2);
        due("36 is of zeros", x.felt(0, 0, 0, 1, 0), 4);
        x.item(0, 0, 0, 9);
        due("36 once more", x.sheet(0, 0, 2), 2);
        due("36 is of zeros", x.felt(0, 0, 0, 1, 0), 4);
        due("36 size", x.sheet(0, 1, -1), SIZE);
        due("36 size", x.sheet(0, 1, LEAST), SIZE);
        due("36 too many", x.sheet(0, 1, 25), BAD);
        due("36 sheet", x.sheet(4, 0, 1), BAD);
        due("36 sheet", x.sheet(-1, 0, 1), BAD);
        due("36 lane", x.sheet(0, 4, 1), BAD);
        due("36 lane", x.sheet(0, -1, 1), BAD);
        due("36 bad goes ahead of size", x.sheet(0, 4, -1), BAD);
        due("36 refused leaves the row", x.item(0, 0, 1, 1), 1);
        due("36 no items", x.sheet(0, 3, 0), 0);
        due("36 no items", x.item(0, 3, 0, 1), INDEX);
        due("36 a longer row is of zeros, too", x.sheet(0, 0, 24), 24);
        due("36 zeros", x.felt(0, 0, 0, 1, 0), 4);
    }

    private static void drop() {
        GossipBoat x = new GossipBoat();
        due("37 null", x.drop(0), NULL);
        due("37 bad", x.drop(4), BAD);
        due("37 bad", x.drop(-1), BAD);
        x.sheet(0, 1, 7);
        x.sheet(1, 1, 0);
        due("37", x.drop(0), 7);
        due("37 null", x.drop(0), NULL);
        due("37 null", x.item(0, 1, 0, 1), NULL);
        due("37 no items are a row, too", x.drop(1), 0);
        due("37 null", x.drop(1), NULL);
    }

    private static void item() {
        GossipBoat x = of("9;p1,p1;0,0");
        due("38 null", x.item(0, 0, 0, 1), NULL);
        x.sheet(0, 0, 2);
        due("38", x.item(0, 0, 0, 257), 1);
        due("38 the lowest 8 bits", x.felt(0, 0, 0, 1, 0), 4);
        x.item(0, 0, 0, 128);
        due("38 a byte has a sign", x.felt(0, 0, 0, 1, 0), NOT);
        x.sheet(0, 1, 2);
        x.item(0, 1, 0, 65536 + 256);
        due("38 the lowest 16 bits", x.felt(0, 1, 0, 1, 0), NOT);
        x.item(0, 1, 0, 65536 + 1);
        due("38 the lowest 16 bits", x.felt(0, 1, 0, 1, 0), 4);
        x.sheet(0, 2, 2);
        x.item(0, 2, 0, (1L << 40) + 1);
        due("38 the lowest 32 bits", x.felt(0, 2, 0, 1, 0), 4);
        x.sheet(0, 3, 2);
        x.item(0, 3, 0, (1L << 40) + 1);
        due("38 all 64 bits", x.felt(0, 3, 0, 1, 0), NOT);
        due("38 cast", x.item(0, 2, 9, 1), CAST);
        due("38 index", x.item(0, 3, 2, 1), INDEX);
        due("38 index", x.item(0, 3, -1, 1), INDEX);
        due("38 index", x.item(0, 3, LEAST, 1), INDEX);
        due("38 sheet", x.item(4, 3, 0, 1), BAD);
        due("38 sheet", x.item(-1, 3, 0, 1), BAD);
        due("38 lane", x.item(0, 4, 0, 1), BAD);
        due("38 lane", x.item(1, -1, 0, 1), BAD);
    }

    private static void copy() {
        GossipBoat x = of("9.1.0.0;p1,p1;0,0");
        due("39 null", x.copy(0, 0, 1, 0, 1), NULL);
        x.sheet(0, 2, 6);
        due("39 null, either", x.copy(0, 0, 1, 0, 1), NULL);
        due("39 null, either", x.copy(1, 0, 0, 0, 1), NULL);
        x.sheet(1, 2, 3);
        x.film(0, 4, 0, 2, 0);
        due("39", x.copy(0, 1, 1, 0, 2), 2);
        due("39 came: 1 and 0", x.felt(1, 2, 0, 1, 0), 4);
        due("39 9 is no saying", x.copy(0, 0, 1, 0, 1) == 1 ? x.felt(1, 2, 0, 1, 0) : 0, NOT);
        // 9 1 0 0 0 0, two to the right: 9 1 9 1 0 0
        due("39 the same, as if all were taken ahead", x.copy(0, 0, 0, 2, 4), 4);
        due("39 9", x.felt(0, 2, 2, 1, 0), NOT);
        due("39 1 and 0", x.felt(0, 2, 3, 1, 0), 4);
        due("39 0 and 0", x.felt(0, 2, 4, 1, 0), 4);
        due("39 to the left", x.copy(0, 3, 0, 0, 3), 3);
        due("39 1 and 0", x.felt(0, 2, 0, 1, 0), 4);
        due("39 nothing, at the end", x.copy(0, 6, 1, 3, 0), 0);
        due("39 index", x.copy(0, 7, 1, 0, 0), INDEX);
        due("39 index", x.copy(0, 0, 1, 4, 0), INDEX);
        due("39 index", x.copy(0, 0, 1, 0, 4), INDEX);
        due("39 index", x.copy(0, 4, 1, 0, 3), INDEX);
        due("39 index", x.copy(0, -1, 1, 0, 1), INDEX);
        due("39 index", x.copy(0, 0, 1, -1, 1), INDEX);
        due("39 index: n below 0, as the machine finds it", x.copy(0, 1, 1, 1, -1), INDEX);
        due("39 index", x.copy(0, 0, 1, 0, LEAST), INDEX);
        due("39 index", x.copy(0, MOST, 1, MOST, MOST), INDEX);
        x.sheet(2, 3, 6);
        due("39 cast", x.copy(0, 9, 2, 0, 1), CAST);
        due("39 null goes ahead of cast", x.copy(2, 0, 3, 0, 1), NULL);
        due("39 sheet", x.copy(4, 0, 0, 0, 1), BAD);
        due("39 sheet", x.copy(-1, 0, 0, 0, 1), BAD);
        due("39 sheet", x.copy(0, 0, 4, 0, 1), BAD);
        due("39 bad goes ahead of null", x.copy(3, 0, -1, 0, 1), BAD);
    }

    private static void nothingForetoldChanges() {
        GossipBoat x = of("14.22.9.40.17;p5,l3,d8,s4,c6,p2;12:024,7:13,16:345,5:01234,9:0");
        x.say(3);
        int[] was = new int[9];
        for (int k = 0; k < 9; k++) {
            was[k] = x.count(k);
        }
        x.rock(0);
        x.next(0);
        x.greedy(50, 0);
        x.through();
        x.plan(4, -1);
        x.crew(0, 3, 0);
        x.minds(0, 0);
        x.once(-1);
        x.sway(0, 40, 0);
        x.boats(0);
        x.ring(0);
        x.enough(0);
        x.sick(0, 5, 0);
        counts("foretold changes nothing", x, was);
        int[] fors = {21, 10, 56, 31, 1};
        int[] juice = {13, 8, 17, 3, 10};
        for (int s = 0; s < 5; s++) {
            due("foretold changes no mind", x.at(s, 1), fors[s]);
            due("foretold takes no juice", x.at(s, 0), juice[s]);
        }
        due("foretold draws nothing", x.seed(1), 1);
    }
}
