/**
 * An iron boat that opens a frozen canal as long as the people in it are not agreed on what is said.
 *
 * The face only looks at its arguments and chooses among answers; what the words of the document
 * mean stands in the classes inside, one for each of its matters.
 */
public final class GossipBoat {
    public static final int BAD = -1, NOT = -2, FULL = -3, NONE = -4, NULL = -11, CAST = -12, INDEX = -13, SIZE = -14;

    private static final int MOST_CELLS = 12, MOST_PEOPLE = 6, MOST_SAYINGS = 5;
    private static final int MOST_ICE = 60, MOST_JUICE = 20, MOST_WEIGHT = 9, MOST_FROST = 9;
    private static final int LAST_MINUTE = 9999, LONGEST_DRIFT = 40;
    private static final int LOUD = 1, DULL = 2, STUBBORN = 3, CHILD = 4;
    private static final int LONGEST_GREEDY = 99, LONGEST_PLAN = 4, LONGEST_RING = 200, MOST_ROCK = 200;
    private static final int SHEETS = 4, MOST_ITEMS = 24;
    private static final int BYTES = 0, SHORTS = 1, INTS = 2, LONGS = 3;
    private static final int FINE = 0;

    private final Canal canal = new Canal();
    private final History history = new History();
    private final Canal imageCanal = new Canal();
    private final History imageHistory = new History();
    private boolean hasImage = false;
    private final Tape tape = new Tape();
    private final Foreteller foreteller = new Foreteller();
    private final Search search = new Search();
    private final Sheet[] sheets = new Sheet[SHEETS];

    public GossipBoat() {
        for (int s = 0; s < SHEETS; s++) {
            sheets[s] = new Sheet();
        }
    }

    // ---- 1 cells, people, sayings

    public int cell(int ice) {
        if (!within(ice, 0, MOST_ICE)) {
            return BAD;
        }
        if (canal.cells >= MOST_CELLS) {
            return FULL;
        }
        history.forget();
        return canal.addCell(ice);
    }

    public int person(int kind, int weight) {
        if (!within(kind, 0, CHILD) || !within(weight, 1, MOST_WEIGHT)) {
            return BAD;
        }
        if (canal.people >= MOST_PEOPLE) {
            return FULL;
        }
        history.forget();
        return canal.addPerson(kind, weight);
    }

    public int saying(int juice, int fors) {
        if (!within(juice, 0, MOST_JUICE) || !within(fors, 0, canal.everybody())) {
            return BAD;
        }
        if (canal.sayings >= MOST_SAYINGS) {
            return FULL;
        }
        history.forget();
        return canal.addSaying(juice, fors);
    }

    public int ice(int cell) {
        return canal.hasCell(cell) ? canal.now.ice[cell] : BAD;
    }

    public int of(int person, int what) {
        if (!canal.hasPerson(person)) {
            return BAD;
        }
        switch (what) {
            case 0: return canal.kind[person];
            case 1: return canal.weight[person];
            case 2: return canal.sayingsFor(person);
            default: return BAD;
        }
    }

    public int at(int saying, int what) {
        if (!canal.hasSaying(saying)) {
            return BAD;
        }
        int juice = canal.now.juice[saying];
        int fors = canal.now.fors[saying];
        switch (what) {
            case 0: return juice;
            case 1: return fors;
            case 2: return canal.sideRocks(fors, juice, canal.now.isEven());
            case 3: return canal.sideRocks(canal.everybody() & ~fors, juice, canal.now.isEven());
            default: return BAD;
        }
    }

    public int rocks(int person, int saying) {
        if (!canal.hasPerson(person) || !canal.hasSaying(saying)) {
            return BAD;
        }
        boolean alone = canal.sideOf(person, saying) == 1 << person;
        return canal.personRocks(person, canal.now.juice[saying], alone, canal.now.isEven());
    }

    public int frost(int v) {
        if (!within(v, 0, MOST_FROST)) {
            return BAD;
        }
        int was = canal.frost;
        canal.frost = v;
        return was;
    }

    public int type(int letter) {
        if (!within(letter, ' ', '~')) {
            return BAD;
        }
        return tape.isFull() ? FULL : tape.add(letter);
    }

    public int canal() {
        int told = tape.readInto(canal);
        tape.length = 0;
        if (told > 0) {
            history.forget();
        }
        return told;
    }

    public int count(int what) {
        switch (what) {
            case 0: return canal.cells;
            case 1: return canal.people;
            case 2: return canal.sayings;
            case 3: return canal.now.boat;
            case 4: return canal.now.minute;
            case 5: return canal.frost;
            case 6: return canal.iceFromHereOn();
            case 7: return canal.juiceOfAll();
            case 8: return history.known;
            default: return BAD;
        }
    }

    // ---- what is done

    public int say(int saying) {
        if (saying != NONE && !canal.hasSaying(saying)) {
            return BAD;
        }
        if (canal.now.minute >= LAST_MINUTE) {
            return FULL;
        }
        history.keep(canal.now);
        canal.pass(canal.now, saying);
        return canal.now.boat;
    }

    public int thaw(int cell, int n) {
        if (!canal.hasCell(cell) || !within(n, 1, MOST_ICE)) {
            return BAD;
        }
        if (canal.now.ice[cell] == 0) {
            return NOT;
        }
        history.keep(canal.now);
        canal.now.ice[cell] = Math.max(0, canal.now.ice[cell] - n);
        return canal.now.ice[cell];
    }

    public int mind(int person, int saying) {
        if (!canal.hasPerson(person) || !canal.hasSaying(saying)) {
            return BAD;
        }
        history.keep(canal.now);
        canal.now.fors[saying] ^= 1 << person;
        return canal.now.fors[saying];
    }

    public int drift(int n) {
        if (!within(n, 1, LONGEST_DRIFT)) {
            return BAD;
        }
        if (canal.now.minute + n > LAST_MINUTE) {
            return FULL;
        }
        for (int minute = 0; minute < n; minute++) {
            history.keep(canal.now);
            canal.pass(canal.now, canal.drawSaying());
        }
        return canal.now.boat;
    }

    public int undo() {
        if (history.known == 0) {
            return NONE;
        }
        history.bringBack(canal.now);
        return history.known;
    }

    public int seed(int v) {
        if (v < 0) {
            return BAD;
        }
        int was = canal.now.draw;
        canal.now.draw = v;
        return was;
    }

    // ---- 2 foretold

    public int rock(int saying) {
        return canal.hasSaying(saying) ? canal.sayingRocks(canal.now, saying) : BAD;
    }

    public int next(int what) {
        if (!within(what, 0, 1)) {
            return BAD;
        }
        int saying = canal.mostRocking(canal.now);
        if (!canal.hasSaying(saying)) {
            return NONE;
        }
        return what == 0 ? saying : canal.sayingRocks(canal.now, saying);
    }

    public int greedy(int n, int what) {
        if (!within(n, 0, LONGEST_GREEDY) || !within(what, 0, 1)) {
            return BAD;
        }
        Moment then = foreteller.greedyFor(canal, n);
        return what == 0 ? then.boat : canal.iceAhead(then);
    }

    public int through() {
        return foreteller.minutesUntilThrough(canal);
    }

    public int plan(int n, int k) {
        if (!within(n, 1, LONGEST_PLAN) || k < -1) {
            return BAD;
        }
        return search.best(canal, n, false, k);
    }

    public int crew(int saying, int k, int what) {
        if (!canal.hasSaying(saying) || !within(k, 1, MOST_PEOPLE) || !within(what, 0, 1)) {
            return BAD;
        }
        if (canal.people < k) {
            return NONE;
        }
        int crew = foreteller.bestCrew(canal, saying, k);
        return what == 0 ? canal.crewRocks(saying, crew) : crew;
    }

    public int minds(int saying, int what) {
        if (!canal.hasSaying(saying) || !within(what, 0, 1)) {
            return BAD;
        }
        int person = foreteller.bestMind(canal, saying);
        if (person == NONE) {
            return NONE;
        }
        return what == 0 ? person : canal.swayedRocks(saying, 1 << person);
    }

    public int once(int k) {
        if (k < -1) {
            return BAD;
        }
        return search.best(canal, canal.sayings, true, k);
    }

    public int sway(int saying, int r, int what) {
        if (!canal.hasSaying(saying) || !within(r, 1, MOST_ROCK) || !within(what, 0, 1)) {
            return BAD;
        }
        int swayed = foreteller.fewestMinds(canal, saying, r);
        if (swayed == NONE) {
            return NONE;
        }
        return what == 0 ? Integer.bitCount(swayed) : swayed;
    }

    public int boats(int what) {
        if (!within(what, 0, 1)) {
            return BAD;
        }
        int staying = foreteller.bestParting(canal);
        return what == 0 ? staying : canal.partingRocks(staying);
    }

    public int ring(int what) {
        if (!within(what, 0, 1)) {
            return BAD;
        }
        int end = foreteller.ringEnd(canal);
        if (end == NONE || what == 0) {
            return end;
        }
        return end - foreteller.firstLike(end);
    }

    public int enough(int saying) {
        return canal.hasSaying(saying) ? foreteller.leastJuice(canal, saying) : BAD;
    }

    public int sick(int saying, int c, int what) {
        if (!canal.hasSaying(saying) || !within(c, 0, 10) || !within(what, 0, 1)) {
            return BAD;
        }
        return foreteller.likelihood(canal, saying, c, what == 0);
    }

    public int image() {
        imageCanal.take(canal);
        imageHistory.take(history);
        hasImage = true;
        return 1;
    }

    public int restore() {
        if (!hasImage) {
            return NONE;
        }
        canal.take(imageCanal);
        history.take(imageHistory);
        return 1;
    }

    // ---- 3 sheets

    public int felt(int sheet, int lane, int i, int n, int what) {
        if (!isSheet(sheet) || !isLane(lane) || !within(n, 1, MOST_SAYINGS) || !within(what, 0, 1)) {
            return BAD;
        }
        Sheet row = sheets[sheet];
        int refusal = row.refusal(lane, i, 2 * n);
        if (refusal != FINE) {
            return refusal;
        }
        for (int pair = 0; pair < n; pair++) {
            if (!isSaying(row.items[i + 2 * pair])) {
                return NOT;
            }
        }
        return what == 0 ? countFelt(row, i, n) : leastFelt(row, i, n);
    }

    public int film(int cell, int n, int sheet, int lane, int i) {
        if (!canal.hasCell(cell) || !within(n, 1, canal.cells - cell) || !isSheet(sheet) || !isLane(lane)) {
            return BAD;
        }
        Sheet row = sheets[sheet];
        int refusal = row.refusal(lane, i, n);
        if (refusal != FINE) {
            return refusal;
        }
        for (int k = 0; k < n; k++) {
            row.put(i + k, canal.now.ice[cell + k]);
        }
        return n;
    }

    public int sheet(int sheet, int lane, int n) {
        if (!isSheet(sheet) || !isLane(lane) || n > MOST_ITEMS) {
            return BAD;
        }
        if (n < 0) {
            return SIZE;
        }
        sheets[sheet].begin(lane, n);
        return n;
    }

    public int drop(int sheet) {
        if (!isSheet(sheet)) {
            return BAD;
        }
        Sheet row = sheets[sheet];
        if (row.isNothing()) {
            return NULL;
        }
        int had = row.length;
        row.end();
        return had;
    }

    public int item(int sheet, int lane, int i, long v) {
        if (!isSheet(sheet) || !isLane(lane)) {
            return BAD;
        }
        Sheet row = sheets[sheet];
        int refusal = row.refusal(lane, i, 1);
        if (refusal != FINE) {
            return refusal;
        }
        row.put(i, v);
        return 1;
    }

    public int copy(int from, int i, int to, int j, int n) {
        if (!isSheet(from) || !isSheet(to)) {
            return BAD;
        }
        Sheet source = sheets[from];
        Sheet target = sheets[to];
        if (source.isNothing() || target.isNothing()) {
            return NULL;
        }
        if (source.lane != target.lane) {
            return CAST;
        }
        if (!source.holds(i, n) || !target.holds(j, n)) {
            return INDEX;
        }
        System.arraycopy(source.items, i, target.items, j, n);
        return n;
    }

    private int countFelt(Sheet row, int i, int n) {
        int count = 0;
        for (int fors = 0; fors <= canal.everybody(); fors++) {
            if (isFeltBy(fors, row, i, n)) {
                count++;
            }
        }
        return count;
    }

    private int leastFelt(Sheet row, int i, int n) {
        for (int fors = 0; fors <= canal.everybody(); fors++) {
            if (isFeltBy(fors, row, i, n)) {
                return fors;
            }
        }
        return NONE;
    }

    private boolean isFeltBy(int fors, Sheet row, int i, int n) {
        for (int pair = 0; pair < n; pair++) {
            int saying = (int) row.items[i + 2 * pair];
            int juice = canal.now.juice[saying];
            int rocked = canal.boatRocks(juice, fors, canal.everybody(), canal.now.isEven());
            if (row.items[i + 2 * pair + 1] != rocked) {
                return false;
            }
        }
        return true;
    }

    // A row of longs may hold what only its lowest bits make a SAYING.
    private boolean isSaying(long v) {
        return v >= 0 && v < canal.sayings;
    }

    private static boolean isSheet(int sheet) {
        return within(sheet, 0, SHEETS - 1);
    }

    private static boolean isLane(int lane) {
        return within(lane, BYTES, LONGS);
    }

    private static boolean within(int v, int least, int most) {
        return v >= least && v <= most;
    }

    /** What a minute, a thaw, a changed mind may change, and so what is brought back when one is undone. */
    private static final class Moment {
        final int[] ice = new int[MOST_CELLS];
        final int[] juice = new int[MOST_SAYINGS];
        final int[] fors = new int[MOST_SAYINGS];
        int boat = 0;
        int minute = 0;
        int draw = 1;

        void take(Moment other) {
            System.arraycopy(other.ice, 0, ice, 0, MOST_CELLS);
            System.arraycopy(other.juice, 0, juice, 0, MOST_SAYINGS);
            System.arraycopy(other.fors, 0, fors, 0, MOST_SAYINGS);
            boat = other.boat;
            minute = other.minute;
            draw = other.draw;
        }

        boolean isEven() {
            return minute % 2 == 0;
        }
    }

    /** The canal with its people and sayings; what is foretold asks it about moments other than now. */
    private static final class Canal {
        final int[] kind = new int[MOST_PEOPLE];
        final int[] weight = new int[MOST_PEOPLE];
        final Moment now = new Moment();
        int cells = 0;
        int people = 0;
        int sayings = 0;
        int frost = 1;

        void take(Canal other) {
            System.arraycopy(other.kind, 0, kind, 0, MOST_PEOPLE);
            System.arraycopy(other.weight, 0, weight, 0, MOST_PEOPLE);
            now.take(other.now);
            cells = other.cells;
            people = other.people;
            sayings = other.sayings;
            frost = other.frost;
        }

        boolean hasCell(int cell) {
            return cell >= 0 && cell < cells;
        }

        boolean hasPerson(int person) {
            return person >= 0 && person < people;
        }

        boolean hasSaying(int saying) {
            return saying >= 0 && saying < sayings;
        }

        int everybody() {
            return (1 << people) - 1;
        }

        int addCell(int ice) {
            now.ice[cells] = ice;
            cells++;
            return cells - 1;
        }

        int addPerson(int ofKind, int ofWeight) {
            kind[people] = ofKind;
            weight[people] = ofWeight;
            people++;
            return people - 1;
        }

        int addSaying(int juice, int fors) {
            now.juice[sayings] = juice;
            now.fors[sayings] = fors;
            sayings++;
            return sayings - 1;
        }

        int sayingsFor(int person) {
            int set = 0;
            for (int s = 0; s < sayings; s++) {
                set |= (now.fors[s] >> person & 1) << s;
            }
            return set;
        }

        int sideOf(int person, int saying) {
            boolean isFor = (now.fors[saying] >> person & 1) != 0;
            return everybody() & (isFor ? now.fors[saying] : ~now.fors[saying]);
        }

        int iceFromHereOn() {
            int sum = 0;
            for (int c = now.boat; c < cells; c++) {
                sum += now.ice[c];
            }
            return sum;
        }

        int juiceOfAll() {
            int sum = 0;
            for (int s = 0; s < sayings; s++) {
                sum += now.juice[s];
            }
            return sum;
        }

        boolean isThrough(Moment m) {
            return m.boat >= cells;
        }

        int iceAhead(Moment m) {
            return isThrough(m) ? 0 : m.ice[m.boat];
        }

        int personRocks(int person, int juice, boolean alone, boolean even) {
            int plain = weight[person];
            int loud = plain + juice / 4;
            int dull = juice < 6 ? 0 : plain;
            switch (kind[person]) {
                case LOUD: return loud;
                case DULL: return dull;
                case STUBBORN: return alone ? 2 * loud : loud;
                case CHILD: return even ? dull + 3 : dull;
                default: return plain;
            }
        }

        /** The side is all who are on it: who is ashore, sick or in another boat must not be in the set. */
        int sideRocks(int side, int juice, boolean even) {
            boolean alone = Integer.bitCount(side) == 1;
            int sum = 0;
            for (int p = 0; p < people; p++) {
                if ((side >> p & 1) != 0) {
                    sum += personRocks(p, juice, alone, even);
                }
            }
            return sum;
        }

        int boatRocks(int juice, int fors, int crew, boolean even) {
            if (juice == 0) {
                return 0;
            }
            return 2 * Math.min(sideRocks(crew & fors, juice, even), sideRocks(crew & ~fors, juice, even));
        }

        int sayingRocks(Moment m, int saying) {
            return boatRocks(m.juice[saying], m.fors[saying], everybody(), m.isEven());
        }

        int crewRocks(int saying, int crew) {
            return boatRocks(now.juice[saying], now.fors[saying], crew, now.isEven());
        }

        int swayedRocks(int saying, int swayed) {
            return boatRocks(now.juice[saying], now.fors[saying] ^ swayed, everybody(), now.isEven());
        }

        int partingRocks(int staying) {
            int here = 0;
            int there = 0;
            for (int s = 0; s < sayings; s++) {
                here = Math.max(here, crewRocks(s, staying));
                there = Math.max(there, crewRocks(s, everybody() & ~staying));
            }
            return Math.min(here, there);
        }

        int mostRocking(Moment m) {
            int best = NONE;
            int most = -1;
            for (int s = 0; s < sayings; s++) {
                int rocked = sayingRocks(m, s);
                if (rocked > most) {
                    best = s;
                    most = rocked;
                }
            }
            return best;
        }

        /** A minute; what is no saying stands for nothing said. */
        void pass(Moment m, int saying) {
            if (!isThrough(m)) {
                breakIce(m, hasSaying(saying) ? sayingRocks(m, saying) : 0);
            }
            for (int s = 0; s < sayings; s++) {
                if (s == saying) {
                    m.juice[s] = Math.max(0, m.juice[s] - 2);
                } else if (m.juice[s] > 0) {
                    m.juice[s] = Math.min(MOST_JUICE, m.juice[s] + 1);
                }
            }
            m.minute++;
        }

        private void breakIce(Moment m, int rocked) {
            int left = m.ice[m.boat] - rocked;
            if (left <= 0) {
                m.ice[m.boat] = 0;
                m.boat++;
            } else {
                m.ice[m.boat] = Math.min(MOST_ICE, left + frost);
            }
        }

        int drawSaying() {
            now.draw = (now.draw * 1103515245 + 12345) & 0x7fffffff;
            int drawn = now.draw / 65536 % (sayings + 1);
            return drawn < sayings ? drawn : NONE;
        }
    }

    /** The moments ahead of the latest deeds; the oldest one gives way when too many are known. */
    private static final class History {
        static final int KNOWN = 8;
        final Moment[] moments = new Moment[KNOWN];
        int next = 0;
        int known = 0;

        History() {
            for (int k = 0; k < KNOWN; k++) {
                moments[k] = new Moment();
            }
        }

        void keep(Moment m) {
            moments[next].take(m);
            next = (next + 1) % KNOWN;
            known = Math.min(KNOWN, known + 1);
        }

        void bringBack(Moment m) {
            next = (next + KNOWN - 1) % KNOWN;
            known--;
            m.take(moments[next]);
        }

        void forget() {
            known = 0;
        }

        void take(History other) {
            for (int k = 0; k < KNOWN; k++) {
                moments[k].take(other.moments[k]);
            }
            next = other.next;
            known = other.known;
        }
    }

    /** What is foretold without a search among orders; it works on a moment of its own. */
    private static final class Foreteller {
        final Moment then = new Moment();
        final long[] marks = new long[LONGEST_RING + 1];

        Moment greedyFor(Canal canal, int n) {
            then.take(canal.now);
            for (int minute = 0; minute < n; minute++) {
                canal.pass(then, canal.mostRocking(then));
            }
            return then;
        }

        int minutesUntilThrough(Canal canal) {
            then.take(canal.now);
            for (int minute = 0; minute <= LONGEST_GREEDY; minute++) {
                if (canal.isThrough(then)) {
                    return minute;
                }
                canal.pass(then, canal.mostRocking(then));
            }
            return NONE;
        }

        int ringEnd(Canal canal) {
            then.take(canal.now);
            marks[0] = mark(canal);
            for (int minute = 1; minute <= LONGEST_RING; minute++) {
                canal.pass(then, canal.mostRocking(then));
                marks[minute] = mark(canal);
                if (firstLike(minute) < minute) {
                    return minute;
                }
            }
            return NONE;
        }

        int firstLike(int minute) {
            for (int earlier = 0; earlier < minute; earlier++) {
                if (marks[earlier] == marks[minute]) {
                    return earlier;
                }
            }
            return minute;
        }

        // All that a ring compares, packed: at most 4 + 6 + 5 * 5 + 1 bits.
        private long mark(Canal canal) {
            long mark = then.boat * 64L + canal.iceAhead(then);
            for (int s = 0; s < canal.sayings; s++) {
                mark = mark * 32 + then.juice[s];
            }
            return mark * 2 + (then.isEven() ? 0 : 1);
        }

        int bestCrew(Canal canal, int saying, int k) {
            int best = 0;
            int most = -1;
            for (int crew = 0; crew <= canal.everybody(); crew++) {
                if (Integer.bitCount(crew) == k) {
                    int rocked = canal.crewRocks(saying, crew);
                    if (rocked > most) {
                        best = crew;
                        most = rocked;
                    }
                }
            }
            return best;
        }

        int bestMind(Canal canal, int saying) {
            int best = NONE;
            int most = canal.sayingRocks(canal.now, saying);
            for (int p = 0; p < canal.people; p++) {
                int rocked = canal.swayedRocks(saying, 1 << p);
                if (rocked > most) {
                    best = p;
                    most = rocked;
                }
            }
            return best;
        }

        int fewestMinds(Canal canal, int saying, int r) {
            int best = NONE;
            int fewest = MOST_PEOPLE + 1;
            for (int swayed = 0; swayed <= canal.everybody(); swayed++) {
                int size = Integer.bitCount(swayed);
                if (size < fewest && canal.swayedRocks(saying, swayed) >= r) {
                    best = swayed;
                    fewest = size;
                }
            }
            return best;
        }

        int bestParting(Canal canal) {
            int best = 0;
            int most = -1;
            for (int staying = 0; staying <= canal.everybody(); staying++) {
                int rocked = canal.partingRocks(staying);
                if (rocked > most) {
                    best = staying;
                    most = rocked;
                }
            }
            return best;
        }

        int leastJuice(Canal canal, int saying) {
            Moment now = canal.now;
            if (canal.isThrough(now)) {
                return NONE;
            }
            for (int juice = 0; juice <= MOST_JUICE; juice++) {
                int rocked = canal.boatRocks(juice, now.fors[saying], canal.everybody(), now.isEven());
                if (rocked >= canal.iceAhead(now)) {
                    return juice;
                }
            }
            return NONE;
        }

        /** One of the two numbers of the fraction; all chances together are 10 to the number of people. */
        int likelihood(Canal canal, int saying, int c, boolean isAbove) {
            int above = canal.isThrough(canal.now) ? 0 : chances(canal, saying, c);
            int below = power(10, canal.people);
            // 2 and 5 are the only primes below, each at most once for a person.
            for (int p = 0; p < canal.people; p++) {
                if (above % 2 == 0) {
                    above /= 2;
                    below /= 2;
                }
                if (above % 5 == 0) {
                    above /= 5;
                    below /= 5;
                }
            }
            return isAbove ? above : below;
        }

        private static int chances(Canal canal, int saying, int c) {
            int sum = 0;
            for (int well = 0; well <= canal.everybody(); well++) {
                if (canal.crewRocks(saying, well) >= canal.iceAhead(canal.now)) {
                    int size = Integer.bitCount(well);
                    sum += power(10 - c, size) * power(c, canal.people - size);
                }
            }
            return sum;
        }

        private static int power(int base, int exponent) {
            int product = 1;
            for (int k = 0; k < exponent; k++) {
                product *= base;
            }
            return product;
        }
    }

    /** The best order in which to say sayings, among all of a length, tried rising. */
    private static final class Search {
        final Moment[] steps = new Moment[MOST_SAYINGS + 1];
        final int[] order = new int[MOST_SAYINGS];
        final int[] bestOrder = new int[MOST_SAYINGS];
        int length = 0;
        boolean eachOnce = false;
        int farthest = 0;
        int leastIce = 0;

        Search() {
            for (int k = 0; k <= MOST_SAYINGS; k++) {
                steps[k] = new Moment();
            }
        }

        /** How far the best order comes (k is -1), or its k-th saying. */
        int best(Canal canal, int ofLength, boolean once, int k) {
            if (canal.sayings == 0 || k >= ofLength) {
                return NONE;
            }
            length = Math.min(MOST_SAYINGS, ofLength);
            eachOnce = once;
            farthest = -1;
            steps[0].take(canal.now);
            tryFrom(this, canal, 0, 0);
            return k < 0 ? farthest : bestOrder[k];
        }

        private static void tryFrom(Search search, Canal canal, int depth, int said) {
            if (depth >= search.length) {
                search.judge(canal, search.steps[search.length]);
                return;
            }
            for (int s = 0; s < canal.sayings; s++) {
                if (search.eachOnce && (said >> s & 1) != 0) {
                    continue;
                }
                Moment step = search.steps[depth + 1];
                step.take(search.steps[depth]);
                canal.pass(step, s);
                search.order[depth] = s;
                tryFrom(search, canal, depth + 1, said | 1 << s);
            }
        }

        private void judge(Canal canal, Moment end) {
            int iceLeft = canal.iceAhead(end);
            if (end.boat > farthest || end.boat == farthest && iceLeft < leastIce) {
                farthest = end.boat;
                leastIce = iceLeft;
                System.arraycopy(order, 0, bestOrder, 0, length);
            }
        }
    }

    /**
     * The letters of a canal as a text. A reading method answers whether all that it wants stands
     * there; if not, it leaves the place at the fault.
     */
    private static final class Tape {
        static final int LONGEST = 110, FIRST_FAULT = -20;
        final char[] letters = new char[LONGEST];
        final Canal read = new Canal();
        int length = 0;
        int place = 0;
        int number = 0;

        boolean isFull() {
            return length >= LONGEST;
        }

        int add(int letter) {
            letters[length] = (char) letter;
            length++;
            return length;
        }

        /** How many cells there are then; or a fault, which leaves the canal as it was. */
        int readInto(Canal canal) {
            place = 0;
            read.cells = 0;
            read.people = 0;
            read.sayings = 0;
            if (!readCells() || !readPeople() || !readEnd()) {
                return FIRST_FAULT - place;
            }
            read.frost = canal.frost;
            read.now.draw = canal.now.draw;
            canal.take(read);
            return canal.cells;
        }

        private boolean readCells() {
            for (int c = 0; c < MOST_CELLS; c++) {
                if (!readNumber(MOST_ICE)) {
                    return false;
                }
                read.addCell(number);
                if (c + 1 == MOST_CELLS || !readLetter('.')) {
                    break;
                }
            }
            return readLetter(';');
        }

        private boolean readPeople() {
            for (int p = 0; p < MOST_PEOPLE; p++) {
                if (!readPerson()) {
                    return false;
                }
                if (p + 1 == MOST_PEOPLE || !readLetter(',')) {
                    break;
                }
            }
            return true;
        }

        private boolean readPerson() {
            skipBlanks();
            int kind = place < length ? "pldsc".indexOf(letters[place]) : -1;
            if (kind < 0) {
                return false;
            }
            place++;
            skipBlanks();
            int weight = digitHere();
            if (weight < 1) {
                return false;
            }
            place++;
            read.addPerson(kind, weight);
            return true;
        }

        private boolean readEnd() {
            if (readLetter(';') && !readSayings()) {
                return false;
            }
            skipBlanks();
            return place == length;
        }

        private boolean readSayings() {
            for (int s = 0; s < MOST_SAYINGS; s++) {
                if (!readNumber(MOST_JUICE)) {
                    return false;
                }
                read.addSaying(number, 0);
                if (readLetter(':') && !readFors(s)) {
                    return false;
                }
                if (s + 1 == MOST_SAYINGS || !readLetter(',')) {
                    break;
                }
            }
            return true;
        }

        private boolean readFors(int saying) {
            int least = 0;
            skipBlanks();
            for (int n = 0; n < MOST_PEOPLE; n++) {
                int person = digitHere();
                if (person < least || person >= read.people) {
                    return false;
                }
                read.now.fors[saying] |= 1 << person;
                least = person + 1;
                place++;
                skipBlanks();
                if (digitHere() < 0) {
                    break;
                }
            }
            return true;
        }

        private boolean readNumber(int most) {
            skipBlanks();
            int first = place;
            if (digitHere() < 0) {
                return false;
            }
            number = digitHere();
            place++;
            if (digitHere() >= 0) {
                number = number * 10 + digitHere();
                place++;
            }
            if (number > most) {
                place = first;
                return false;
            }
            return true;
        }

        private boolean readLetter(char letter) {
            skipBlanks();
            if (place >= length || letters[place] != letter) {
                return false;
            }
            place++;
            return true;
        }

        private void skipBlanks() {
            while (place < length && letters[place] == ' ') {
                place++;
            }
        }

        private int digitHere() {
            if (place >= length || letters[place] < '0' || letters[place] > '9') {
                return -1;
            }
            return letters[place] - '0';
        }
    }

    /** A sheet: its row is made once and used again, so that new rows take no room. */
    private static final class Sheet {
        static final int NOTHING = -1;
        final long[] items = new long[MOST_ITEMS];
        int lane = BYTES;
        int length = NOTHING;

        void begin(int ofLane, int n) {
            lane = ofLane;
            length = n;
            for (int k = 0; k < n; k++) {
                items[k] = 0;
            }
        }

        void end() {
            length = NOTHING;
        }

        boolean isNothing() {
            return length < 0;
        }

        // Written so that no sum can go beyond an int.
        boolean holds(int i, int n) {
            return i >= 0 && n >= 0 && i <= length - n;
        }

        int refusal(int asLane, int i, int n) {
            if (isNothing()) {
                return NULL;
            }
            if (lane != asLane) {
                return CAST;
            }
            return holds(i, n) ? FINE : INDEX;
        }

        void put(int i, long v) {
            switch (lane) {
                case BYTES: items[i] = (byte) v; break;
                case SHORTS: items[i] = (short) v; break;
                case INTS: items[i] = (int) v; break;
                default: items[i] = v; break;
            }
        }
    }
}
