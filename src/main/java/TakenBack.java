/**
 * Papers that are withdrawn and stood on all the same: stones, the lines by which they stand on one another,
 * and what follows when one of them is taken back. ../shared/DOC.md says what each call answers; the words of
 * the document (STONE, LINE, TAKEN, ..) are used here as it defines them.
 */
public final class TakenBack {
    public static final int BAD = -1, NOT = -2, FULL = -3, STATE = -5, VOID = -2000000000;

    private static final int NOTHING = -11, OTHER_KIND = -12, NO_ELEMENT = -13, BELOW_ZERO = -14;
    private static final long NO_VALUE = 0x8000000000000000L;

    private static final int STONE = 0, FIRST = 1, SUMMED = 2, RULED = 3, SAID = 4, HELD = 5, STILL = 6;
    private static final int SLIP = 0, LIE = 1, DOUBT = 2;
    private static final int FOR = 0, AGAINST = 1, UNREAD = 2;
    private static final int DROPS = 1, HOLDS_MORE = 2;
    private static final int WEIGHT = 0, SENSE = 1, MARK = 2;
    private static final int BYTES = 0, SHORTS = 1, INTS = 2, LONGS = 3, BOOLEANS = 4;

    private static final int STONES = 64, LINES = 200, COPIES = 60, NAMES = 20, PLACES = 6, ROW = 60;
    private static final int LAST_MONTH = 599, TAPE = 120;
    private static final long ALL = -1L;

    private final Pile pile = new Pile();
    private final Copies copies = new Copies(pile);
    private final Sums sums = new Sums(pile);
    private final Heads heads = new Heads(pile, copies);
    private final Reader reader = new Reader();
    private final Changes changes = new Changes(pile, copies);
    private final Acts acts = new Acts();
    private final Places places = new Places();

    public TakenBack() {
    }

    // ---- stones, lines

    public int stone(int kind, int a, int b) {
        if (!mayCome(kind, a, b)) {
            return BAD;
        }
        if (pile.stoneCount >= STONES) {
            return FULL;
        }
        return pile.addStone(kind, a, b);
    }

    public int line(int stone, int on, int senseWeight) {
        Stone s = pile.stoneAt(stone);
        if (s == null || !pile.mayStand(s, on) || senseWeight < 0) {
            return BAD;
        }
        int sense = senseWeight / 100, weight = senseWeight % 100;
        if (!isSense(sense) || !isWeight(weight)) {
            return BAD;
        }
        if (pile.lineCount >= LINES) {
            return FULL;
        }
        return pile.addLine(s, on, weight, sense);
    }

    public int citings(int stone, int place, int i, int n) {
        Stone s = pile.stoneAt(stone);
        if (s == null || s.kind == FIRST || !places.isPlace(place) || n < 1 || n > 20) {
            return BAD;
        }
        if (!places.isEmpty(place) && !places.isRowOf(place, BYTES)) {
            return OTHER_KIND;
        }
        if (!places.hasElement(place, i)) {
            return 0;
        }
        for (int k = 0; k < n; k++) {
            int at = i + 3 * k;
            int on = byteOr(place, at, -1), weight = byteOr(place, at + 1, -1), sense = byteOr(place, at + 2, -1);
            if (!pile.mayStand(s, on) || pile.lineCount >= LINES) {
                return k;
            }
            if (!isWeight(weight) || !isSense(sense)) {
                pile.addLine(s, on, 1, UNREAD);
                return k + 1;
            }
            pile.addLine(s, on, weight, sense);
        }
        return n;
    }

    public int ofStone(int stone, int what) {
        Stone s = pile.stoneAt(stone);
        if (s == null) {
            return BAD;
        }
        switch (what) {
            case 0: return pile.kindNow(s);
            case 1: return s.month;
            case 2: return countsNow(s);
            case 3: return s.lineCount;
            case 4: return s.since;
            case 5: return s.way;
            case 6: return s.heard;
            case 7: return pile.far(s);
            case 8: return Long.bitCount(pile.above(s.number));
            default: return BAD;
        }
    }

    public int worth(int stone) {
        Stone s = pile.stoneAt(stone);
        if (s == null) {
            return VOID;
        }
        sums.work(0, 0, s.below | bit(s.number));
        return sums.worths[s.number];
    }

    public int says(int stone) {
        Stone s = pile.stoneAt(stone);
        if (s == null || s.kind != RULED) {
            return BAD;
        }
        return sums.saysWith(s, 0) ? 1 : 0;
    }

    public int ofLine(int line, int what) {
        Line l = pile.lineAt(line);
        if (l == null) {
            return BAD;
        }
        switch (what) {
            case 0: return l.stone;
            case 1: return l.on;
            case 2: return l.weight;
            case 3: return l.sense;
            case 4: return l.dropped ? 1 : 0;
            default: return BAD;
        }
    }

    public int change(int line, int what, int v) {
        Line l = pile.lineAt(line);
        if (l == null || !(what == WEIGHT && isWeight(v) || what == SENSE && isSense(v))) {
            return BAD;
        }
        int was = what == WEIGHT ? l.weight : l.sense;
        changes.make(what, line, was, v);
        return was;
    }

    // ---- taken back

    public int take(int stone, int way, int p) {
        Stone s = pile.stoneAt(stone);
        if (s == null || way < SLIP || way > DOUBT || way == SLIP && (p < 1 || p > 9)) {
            return BAD;
        }
        s.way = way;
        s.slip = p;
        s.since = pile.now;
        pile.taken |= bit(stone);
        return pile.now;
    }

    public int restore(int stone) {
        Stone s = pile.stoneAt(stone);
        if (s == null) {
            return BAD;
        }
        if (s.since < 0) {
            return NOT;
        }
        int was = s.since;
        s.way = -1;
        s.since = -1;
        pile.taken &= ~bit(stone);
        return was;
    }

    public int with(int stone, int other, int what) {
        Stone s = pile.stoneAt(stone), o = pile.stoneAt(other);
        if (s == null || o == null || what < 0 || what > 3) {
            return VOID;
        }
        long it = bit(stone), within = o.below | bit(other);
        if (what < 2) {
            sums.work(it, 0, within);
        } else {
            sums.work(0, it, within);
        }
        return what % 2 == 0 ? sums.counts[o.number] : sums.worths[o.number];
    }

    public int falls(int stone, int i) {
        if (pile.stoneAt(stone) == null) {
            return BAD;
        }
        sums.work(0, 0, ALL);
        long before = sums.counting();
        sums.work(bit(stone), 0, ALL);
        return nth(before & ~sums.counting(), i);
    }

    public int turned(int stone, int i) {
        if (pile.stoneAt(stone) == null) {
            return BAD;
        }
        sums.work(0, 0, ALL);
        long before = sums.sayingYes();
        sums.work(bit(stone), 0, ALL);
        return nth(before ^ sums.sayingYes(), i);
    }

    public int hangs(int stone) {
        Stone s = pile.stoneAt(stone);
        if (s == null || s.kind != RULED) {
            return BAD;
        }
        long set = sums.fewestThatTurn(s);
        return set == 0 ? NOT : Long.bitCount(set);
    }

    public long hung(int stone) {
        Stone s = pile.stoneAt(stone);
        if (s == null || s.kind != RULED) {
            return BAD;
        }
        long set = sums.fewestThatTurn(s);
        return set == 0 ? NOT : set;
    }

    // ---- months, texts, copies

    public int seed(int v) {
        int was = heads.drawSeed;
        heads.drawSeed = v;
        return was;
    }

    public int months(int n) {
        if (n < 1 || n > 24 || pile.now + n > LAST_MONTH) {
            return BAD;
        }
        int heard = 0;
        for (int k = 0; k < n; k++) {
            heard += heads.goOneMonth();
        }
        return heard;
    }

    public int feed(int n, int v) {
        if (n < 1 || n > 4) {
            return BAD;
        }
        return reader.addBytes(n, v);
    }

    public int text(int use) {
        if (use < 0 || use > 1) {
            return BAD;
        }
        int fault = reader.read();
        reader.length = 0;
        if (fault >= 0) {
            return -100 - fault;
        }
        Text read = use == 0 ? heads.hearing : heads.backing;
        read.become(reader.made);
        return 1;
    }

    public int odds(int stone, int use) {
        Stone s = pile.stoneAt(stone);
        if (s == null || s.kind != HELD || use < 0 || use > 1) {
            return BAD;
        }
        return heads.oddsOf(s, use);
    }

    public int letter(int stone) {
        Stone s = pile.stoneAt(stone);
        if (s == null || s.kind != HELD) {
            return BAD;
        }
        if (s.letter) {
            return 0;
        }
        s.letter = true;
        return 1;
    }

    public int copy(int stone, int reach) {
        if (pile.stoneAt(stone) == null || reach < 0 || reach > 999) {
            return BAD;
        }
        if (copies.number >= COPIES) {
            return FULL;
        }
        return copies.add(stone, reach);
    }

    public int mark(int copy, int is) {
        if (!copies.isCopy(copy) || is < 0 || is > 1) {
            return VOID;
        }
        int was = copies.marks[copy];
        changes.make(MARK, copy, was, is == 1 ? pile.now : -1);
        return was;
    }

    public int lacks(int i) {
        long lacking = copies.unmarkedOf(pile.taken);
        return i == -2 ? copies.reachOf(lacking) : nth(lacking, i);
    }

    public int tell(int h, int what) {
        if (h < 0 || h > 60 || what < 0 || what > 2) {
            return BAD;
        }
        int set = heads.bestSet(h);
        switch (what) {
            case 0: return Long.bitCount(heads.covers[set]);
            case 1: return heads.hours[set];
            default: return set;
        }
    }

    public int land(int land) {
        if (land < 0 || land > 7) {
            return BAD;
        }
        return sums.costOf(land);
    }

    // ---- names

    public int name(int stone, int name, int share) {
        Stone s = pile.stoneAt(stone);
        if (s == null || !isName(name) || share < 1 || share > 9) {
            return BAD;
        }
        s.shares[name] = share;
        s.names |= 1 << name;
        return Integer.bitCount(s.names);
    }

    public int share(int stone, int name) {
        Stone s = pile.stoneAt(stone);
        if (s == null || !isName(name) || s.shares[name] == 0) {
            return BAD;
        }
        return s.partOf(name);
    }

    public int hands(int name, int i) {
        if (!isName(name) || i < -1) {
            return BAD;
        }
        long left = pile.firstsBy(pile.namesBeside(name));
        int all = Long.bitCount(left);
        if (i == -1) {
            return all;
        }
        return i < all ? pile.ithMostStoodOn(left, i) : BAD;
    }

    public int fair(int name) {
        if (!isName(name)) {
            return BAD;
        }
        int sum = 0;
        for (int n = 0; n < pile.stoneCount; n++) {
            if (isIn(pile.taken, n)) {
                sum += pile.stones[n].partOf(name);
            }
        }
        return sum;
    }

    public int span(int stone, int what) {
        if (pile.stoneAt(stone) == null) {
            return BAD;
        }
        switch (what) {
            case 0: return pile.linesTo(stone, FOR);
            case 1: return pile.linesTo(stone, FOR) + pile.linesTo(stone, UNREAD);
            case 2: return pile.linesTo(stone, UNREAD);
            case 3: return pile.linesTo(stone, AGAINST);
            default: return BAD;
        }
    }

    public int undo() {
        return changes.goBack() ? changes.done : STATE;
    }

    public int redo() {
        return changes.goOn() ? changes.kept - changes.done : STATE;
    }

    // ---- acts, places

    public int act(int stone, int act, int x) {
        acts.ran = 0;
        Stone s = pile.stoneAt(stone);
        if (s == null || act < 0 || act > 3) {
            return 0;
        }
        return acts.doAs(pile.kindNow(s), s, act, x);
    }

    public int trace(int i) {
        if (i < 0 || i >= acts.ran || i >= acts.bodies.length) {
            return BAD;
        }
        return acts.bodies[i];
    }

    public int keep(int place, int stone) {
        if (!places.isPlace(place) || stone != -1 && pile.stoneAt(stone) == null) {
            return BAD;
        }
        places.holdStone(place, stone);
        return 1;
    }

    public int row(int place, int sort, int n) {
        if (!places.isPlace(place) || sort < BYTES || sort > BOOLEANS || n > ROW) {
            return BAD;
        }
        if (n < 0) {
            return BELOW_ZERO;
        }
        places.holdRow(place, sort, n);
        return 1;
    }

    public int put(int place, int i, long v) {
        int refusal = places.refuses(place, i);
        if (refusal != 0) {
            return refusal;
        }
        places.store(place, i, v);
        return 1;
    }

    public long element(int place, int i) {
        return places.refuses(place, i) != 0 ? NO_VALUE : places.at(place, i);
    }

    public int shift(int place, int i, int other, int j, int n) {
        if (!places.isPlace(place) || !places.isPlace(other)) {
            return BAD;
        }
        if (places.isEmpty(place) || places.isEmpty(other)) {
            return NOTHING;
        }
        if (!places.isRow(place) || !places.isRow(other) || !places.areAlike(place, other)) {
            return OTHER_KIND;
        }
        if (!places.hasRange(place, i, n) || !places.hasRange(other, j, n)) {
            return NO_ELEMENT;
        }
        places.move(place, i, other, j, n);
        return n;
    }

    public int taken(int place, int k) {
        if (!places.isPlace(place) || k < STONE || k > STILL) {
            return BAD;
        }
        if (places.isEmpty(place)) {
            return NOTHING;
        }
        Stone s = pile.stoneAt(places.stoneIn(place));
        if (s == null || !isUnder(pile.kindNow(s), k)) {
            return OTHER_KIND;
        }
        return pile.kindNow(s);
    }

    public int count(int what) {
        switch (what) {
            case 0: return pile.stoneCount;
            case 1: return pile.lineCount;
            case 2: return copies.number;
            case 3: return pile.now;
            case 4: return reader.length;
            case 5: return changes.done;
            case 6: return acts.ran;
            default: return BAD;
        }
    }

    // ---- small helpers

    private int countsNow(Stone s) {
        sums.work(0, 0, s.below | bit(s.number));
        return sums.counts[s.number];
    }

    private int byteOr(int place, int i, int missing) {
        return places.hasElement(place, i) ? (int) places.at(place, i) : missing;
    }

    private static boolean mayCome(int kind, int a, int b) {
        switch (kind) {
            case FIRST: return isResult(a) && b >= 1 && b <= 999;
            case RULED: return isResult(a) && b >= 0 && b <= 799;
            case HELD: return a >= 1 && a <= 9;
            default: return kind == STONE || kind == SUMMED || kind == SAID;
        }
    }

    private static boolean isResult(int v) {
        return v >= -999 && v <= 999;
    }

    private static boolean isWeight(int v) {
        return v >= 1 && v <= 99;
    }

    private static boolean isSense(int v) {
        return v >= FOR && v <= UNREAD;
    }

    private static boolean isName(int v) {
        return v >= 0 && v < NAMES;
    }

    private static boolean isUnder(int kind, int k) {
        int up = kind;
        for (int steps = 0; steps <= STILL && up > STONE && up != k; steps++) {
            up = Acts.ABOVE[up];
        }
        return up == k;
    }

    private static long bit(int n) {
        return 1L << n;
    }

    private static boolean isIn(long bits, int n) {
        return (bits >>> n & 1L) != 0;
    }

    /** How many bits there are (i -1), or the number of the i-th one. */
    private static int nth(long bits, int i) {
        if (i == -1) {
            return Long.bitCount(bits);
        }
        int ahead = 0;
        for (int n = 0; n < 64; n++) {
            if (isIn(bits, n)) {
                if (ahead == i) {
                    return n;
                }
                ahead++;
            }
        }
        return BAD;
    }

    /** One stone: what was told of it, and what has come over it since. */
    private static final class Stone {
        final int number, kind, month, a, b;
        final int[] shares = new int[NAMES];
        int names;
        int since = -1, way = -1, slip;
        int heard;
        boolean letter;
        int lineCount;
        Line lines;
        /** Stones to which it has a line, a dropped one too: no second line may come. */
        long tied;
        /** Stones on which it stands, along all lines that lead. */
        long below;

        Stone(int number, int kind, int month, int a, int b) {
            this.number = number;
            this.kind = kind;
            this.month = month;
            this.a = a;
            this.b = b;
        }

        int partOf(int name) {
            int all = 0;
            for (int n = 0; n < NAMES; n++) {
                all += shares[n];
            }
            return all == 0 ? 0 : shares[name] * 1000 / all;
        }
    }

    /** One line; those of a stone hang together by next. */
    private static final class Line {
        final int stone, on;
        final Line next;
        int weight, sense;
        boolean dropped;

        Line(int stone, int on, int weight, int sense, Line next) {
            this.stone = stone;
            this.on = on;
            this.weight = weight;
            this.sense = sense;
            this.next = next;
        }
    }

    /** All stones and lines, the month, and who stands on whom. */
    private static final class Pile {
        final Stone[] stones = new Stone[STONES];
        final Line[] lines = new Line[LINES];
        int stoneCount, lineCount, now;
        long taken;
        private final int[] scratch = new int[STONES];

        Stone stoneAt(int n) {
            return n >= 0 && n < stoneCount ? stones[n] : null;
        }

        Line lineAt(int n) {
            return n >= 0 && n < lineCount ? lines[n] : null;
        }

        int addStone(int kind, int a, int b) {
            stones[stoneCount] = new Stone(stoneCount, kind, now, a, b);
            return stoneCount++;
        }

        /** A line to an earlier stone is the only one that keeps the pile without a ring. */
        boolean mayStand(Stone s, int on) {
            return s.kind != FIRST && on >= 0 && on < s.number && !isIn(s.tied, on);
        }

        int addLine(Stone s, int on, int weight, int sense) {
            Line l = new Line(s.number, on, weight, sense, s.lines);
            lines[lineCount] = l;
            s.lines = l;
            s.lineCount++;
            s.tied |= bit(on);
            reachFrom(s.number);
            return lineCount++;
        }

        /** Stones ahead of this one can't stand on it: only it and later ones are worked anew. */
        void reachFrom(int number) {
            for (int n = number; n < stoneCount; n++) {
                long below = 0;
                for (Line l = stones[n].lines; l != null; l = l.next) {
                    if (!l.dropped) {
                        below |= bit(l.on) | stones[l.on].below;
                    }
                }
                stones[n].below = below;
            }
        }

        /** Stones that stand on it, along all. */
        long above(int number) {
            long above = 0;
            for (int n = number + 1; n < stoneCount; n++) {
                if (isIn(stones[n].below, number)) {
                    above |= bit(n);
                }
            }
            return above;
        }

        int far(Stone s) {
            int most = 0;
            for (int n = s.number + 1; n < stoneCount; n++) {
                scratch[n] = isIn(stones[n].below, s.number) ? longestWay(stones[n], s.number) : 0;
                most = Math.max(most, scratch[n]);
            }
            return most;
        }

        /** Ways of all stones between them stand in scratch already, as stones come in order. */
        private int longestWay(Stone from, int to) {
            int most = 0;
            for (Line l = from.lines; l != null; l = l.next) {
                if (!l.dropped && l.on == to) {
                    most = Math.max(most, 1);
                } else if (!l.dropped && isIn(stones[l.on].below, to)) {
                    most = Math.max(most, scratch[l.on] + 1);
                }
            }
            return most;
        }

        boolean isStill(Stone s) {
            return s.kind == HELD && s.heard == 0 && (s.below & taken) != 0;
        }

        int kindNow(Stone s) {
            return isStill(s) ? STILL : s.kind;
        }

        int linesTo(int number, int sense) {
            int many = 0;
            for (int n = 0; n < lineCount; n++) {
                Line l = lines[n];
                if (l.on == number && l.sense == sense && !l.dropped) {
                    many++;
                }
            }
            return many;
        }

        /** The name and all that are with it on some stone, as bits; none if it is on no stone. */
        int namesBeside(int name) {
            int beside = 0;
            for (int n = 0; n < stoneCount; n++) {
                if ((stones[n].names >>> name & 1) != 0) {
                    beside |= stones[n].names;
                }
            }
            return beside;
        }

        long firstsBy(int names) {
            long found = 0;
            for (int n = 0; n < stoneCount; n++) {
                if (stones[n].kind == FIRST && stones[n].since < 0 && (stones[n].names & names) != 0) {
                    found |= bit(n);
                }
            }
            return found;
        }

        int ithMostStoodOn(long of, int i) {
            for (int n = 0; n < stoneCount; n++) {
                scratch[n] = isIn(of, n) ? Long.bitCount(above(n)) : -1;
            }
            int best = BAD;
            for (int k = 0; k <= i && k < STONES; k++) {
                best = greatest();
                if (best >= 0) {
                    scratch[best] = -1;
                }
            }
            return best;
        }

        private int greatest() {
            int best = BAD, most = -1;
            for (int n = 0; n < stoneCount; n++) {
                if (scratch[n] > most) {
                    best = n;
                    most = scratch[n];
                }
            }
            return best;
        }
    }

    /** Counts and worth of stones, as they are or in thought. */
    private static final class Sums {
        private static final int MOST_COUNTS = 1000000000, MOST_FIRSTS = 8;

        final int[] counts = new int[STONES];
        /** VOID where there is none; such a stone counts 0, so that VOID goes into no sum. */
        final int[] worths = new int[STONES];
        private final int[] hung = new int[MOST_FIRSTS];
        private final Pile pile;

        Sums(Pile pile) {
            this.pile = pile;
        }

        /**
         * Works the stones within anew: lies are TAKEN by a LIE in thought, standing ones not TAKEN.
         * A stone within brings all on which it stands.
         */
        void work(long lies, long standing, long within) {
            for (int n = 0; n < pile.stoneCount; n++) {
                if (isIn(within, n)) {
                    Stone s = pile.stones[n];
                    weigh(s);
                    int way = isIn(lies, n) ? LIE : isIn(standing, n) ? -1 : s.way;
                    counts[n] = lessened(counts[n], way, s.slip);
                }
            }
        }

        private void weigh(Stone s) {
            if (s.kind == FIRST) {
                counts[s.number] = s.b * 20;
                worths[s.number] = s.a * 1000;
                return;
            }
            long parts = 0, sum = 0;
            for (Line l = s.lines; l != null; l = l.next) {
                if (!l.dropped) {
                    long part = (long) counts[l.on] * l.weight / 100;
                    parts += part;
                    sum += l.sense == AGAINST ? -part * worths[l.on] : part * worths[l.on];
                }
            }
            counts[s.number] = (int) Math.min(parts, MOST_COUNTS);
            worths[s.number] = parts > 0 ? (int) Math.floorDiv(sum, parts) : VOID;
        }

        private static int lessened(int counts, int way, int slip) {
            switch (way) {
                case SLIP: return (int) ((long) counts * (10 - slip) / 10);
                case LIE: return 0;
                case DOUBT: return counts / 2;
                default: return counts;
            }
        }

        long counting() {
            long found = 0;
            for (int n = 0; n < pile.stoneCount; n++) {
                if (counts[n] > 0) {
                    found |= bit(n);
                }
            }
            return found;
        }

        long sayingYes() {
            long found = 0;
            for (int n = 0; n < pile.stoneCount; n++) {
                Stone s = pile.stones[n];
                if (s.kind == RULED && isYes(s)) {
                    found |= bit(n);
                }
            }
            return found;
        }

        private boolean isYes(Stone ruled) {
            return counts[ruled.number] > 0 && worths[ruled.number] >= 1000 * ruled.a;
        }

        boolean saysWith(Stone ruled, long lies) {
            work(lies, 0, ruled.below | bit(ruled.number));
            return isYes(ruled);
        }

        /** Bits of the fewest FIRSTS that turn what it says; 0: none do. */
        long fewestThatTurn(Stone ruled) {
            int many = gatherFirsts(ruled);
            boolean now = saysWith(ruled, 0);
            for (int size = 1; size <= many; size++) {
                for (int set = 1; set < 1 << many; set++) {
                    if (Integer.bitCount(set) == size) {
                        long lies = asStones(set, many);
                        if (saysWith(ruled, lies) != now) {
                            return lies;
                        }
                    }
                }
            }
            return 0;
        }

        private int gatherFirsts(Stone ruled) {
            int many = 0;
            for (int n = 0; n < ruled.number && many < MOST_FIRSTS; n++) {
                Stone s = pile.stones[n];
                if (s.kind == FIRST && s.since < 0 && isIn(ruled.below, n)) {
                    hung[many] = n;
                    many++;
                }
            }
            return many;
        }

        private long asStones(int set, int many) {
            long stones = 0;
            for (int k = 0; k < many; k++) {
                if ((set >>> k & 1) != 0) {
                    stones |= bit(hung[k]);
                }
            }
            return stones;
        }

        int costOf(int land) {
            long lies = 0;
            for (int n = 0; n < pile.stoneCount; n++) {
                if (pile.stones[n].kind == FIRST && pile.stones[n].since >= 0) {
                    lies |= bit(n);
                }
            }
            work(0, 0, ALL);
            long turned = sayingYes();
            work(lies, 0, ALL);
            turned ^= sayingYes();
            int cost = 0;
            for (int n = 0; n < pile.stoneCount; n++) {
                Stone s = pile.stones[n];
                if (isIn(turned, n) && s.b / 100 == land) {
                    cost += monthsAmiss(s) * (s.b % 100);
                }
            }
            return cost;
        }

        private int monthsAmiss(Stone ruled) {
            int first = pile.now;
            for (int n = 0; n < ruled.number; n++) {
                if (isIn(ruled.below & pile.taken, n)) {
                    first = Math.min(first, pile.stones[n].since);
                }
            }
            return pile.now - Math.max(first, ruled.month);
        }
    }

    /** Copies of stones, their reach, and the month since which each bears a mark (-1: none). */
    private static final class Copies {
        final int[] marks = new int[COPIES];
        int number;
        private final int[] stones = new int[COPIES], reaches = new int[COPIES];
        private final Pile pile;

        Copies(Pile pile) {
            this.pile = pile;
        }

        boolean isCopy(int n) {
            return n >= 0 && n < number;
        }

        int add(int stone, int reach) {
            stones[number] = stone;
            reaches[number] = reach;
            marks[number] = -1;
            return number++;
        }

        /** Bits of the copies of these stones that bear no mark. */
        long unmarkedOf(long of) {
            long found = 0;
            for (int n = 0; n < number; n++) {
                if (marks[n] < 0 && isIn(of & pile.taken, stones[n])) {
                    found |= bit(n);
                }
            }
            return found;
        }

        int reachOf(long which) {
            int sum = 0;
            for (int n = 0; n < number; n++) {
                if (isIn(which, n)) {
                    sum += reaches[n];
                }
            }
            return sum;
        }
    }

    /**
     * A text as it is worked out: numbers as they are, and signs as less than 0, each behind what it works on;
     * a ? behind the first part of a line, a ; behind the line.
     */
    private static final class Text {
        static final int MOST = TAPE + 1;

        final int[] items = new int[MOST];
        int length;

        void add(int item) {
            if (length < MOST) {
                items[length] = item;
                length++;
            }
        }

        void become(Text other) {
            length = Math.min(other.length, MOST);
            for (int n = 0; n < length; n++) {
                items[n] = other.items[n];
            }
        }
    }

    /** The tape, and the reading of it as a text. */
    private static final class Reader {
        /** Signs between two parts, the loosest level first; those of COMPARING stand once only. */
        private static final String EITHER = "|", BOTH = "&", LIKE = "<=>", ADDED = "+-", TIMES = "*/%";
        private static final int COMPARING = 2, OPERAND = 5, MOST_OPEN = 6, MOST_DIGITS = 4;
        private static final char NEGATED = '~';
        private static final String KNOWN = "mwsnchl";

        final Text made = new Text();
        int length;
        private final int[] bytes = new int[TAPE];
        private int at, fault;

        int addBytes(int n, int v) {
            if (length + n > TAPE) {
                return FULL;
            }
            for (int k = 0; k < n && k < 4; k++) {
                bytes[length] = v >>> 8 * k & 255;
                length++;
            }
            return length;
        }

        /** Makes the text of the tape: its FAULT, or -1 if there is none. */
        int read() {
            made.length = 0;
            at = 0;
            fault = -1;
            for (int lines = 0; lines <= TAPE; lines++) {
                readLine();
                if (fault >= 0 || at >= length) {
                    return fault;
                }
                if (!sees(";")) {
                    return at;
                }
                at++;
            }
            return at;
        }

        private void readLine() {
            readPart(0, 0);
            if (fault < 0 && sees("?")) {
                at++;
                made.add(-'?');
                readPart(0, 0);
            }
            made.add(-';');
        }

        /** Each level takes parts of the next one; open is how many of ( ! - stand open, which bounds the depth. */
        private void readPart(int level, int open) {
            if (level >= OPERAND) {
                readOperand(open);
                return;
            }
            readPart(level + 1, open);
            int most = level == COMPARING ? 1 : TAPE;
            for (int k = 0; k < most && fault < 0 && sees(signsOf(level)); k++) {
                int sign = bytes[at];
                at++;
                readPart(level + 1, open);
                made.add(-sign);
            }
        }

        private void readOperand(int open) {
            if (sees("0123456789")) {
                readNumber();
            } else if (sees(KNOWN)) {
                made.add(-bytes[at]);
                at++;
            } else if (sees("(!-") && open < MOST_OPEN) {
                readOpened(bytes[at], open + 1);
            } else {
                fault = at;
            }
        }

        private void readOpened(int sign, int open) {
            at++;
            if (sign != '(') {
                readOperand(open);
                made.add(sign == '-' ? -NEGATED : -sign);
                return;
            }
            readPart(0, open);
            if (fault < 0 && sees(")")) {
                at++;
            } else if (fault < 0) {
                fault = at;
            }
        }

        private void readNumber() {
            int v = 0;
            for (int k = 0; k < MOST_DIGITS && sees("0123456789"); k++) {
                v = 10 * v + bytes[at] - '0';
                at++;
            }
            made.add(v);
        }

        private boolean sees(String signs) {
            return at < length && at < TAPE && signs.indexOf((char) bytes[at]) >= 0;
        }

        private static String signsOf(int level) {
            switch (level) {
                case 0: return EITHER;
                case 1: return BOTH;
                case COMPARING: return LIKE;
                case 3: return ADDED;
                default: return TIMES;
            }
        }
    }

    /** The HELD ones: what they know, whether they hear, and whom to tell. */
    private static final class Heads {
        private static final int DEEPEST = 64, MOST_TOLD = 10, GREATEST_WEIGHT = 99;

        final Text hearing = new Text(), backing = new Text();
        int drawSeed;
        /** By sets of the first STILL ones: the stones that stand on one of them, and their hours. */
        final long[] covers = new long[1 << MOST_TOLD];
        final int[] hours = new int[1 << MOST_TOLD];
        private final int[] known = new int[Reader.KNOWN.length()];
        private final int[] parts = new int[DEEPEST];
        private int height;
        private final Pile pile;
        private final Copies copies;

        Heads(Pile pile, Copies copies) {
            this.pile = pile;
            this.copies = copies;
        }

        int goOneMonth() {
            int many = 0;
            pile.now++;
            for (int n = 0; n < pile.stoneCount; n++) {
                Stone s = pile.stones[n];
                if (pile.isStill(s) && draw(n, 0) < oddsOf(s, 0)) {
                    hear(s);
                    many++;
                }
            }
            return many;
        }

        private int draw(int stone, int use) {
            int z = drawSeed * 69069 + 7919 * stone + 104729 * pile.now + 13 * use;
            z = (z ^ z >>> 15) * 1274126177;
            return (z >>> 7) % 1000;
        }

        private void hear(Stone s) {
            boolean more = draw(s.number, 1) < oddsOf(s, 1);
            s.heard = more ? HOLDS_MORE : DROPS;
            for (Line l = s.lines; l != null; l = l.next) {
                if (!l.dropped && isIn(pile.taken, l.on)) {
                    if (more) {
                        l.weight = GREATEST_WEIGHT;
                    } else {
                        l.dropped = true;
                    }
                }
            }
            pile.reachFrom(s.number);
        }

        int oddsOf(Stone s, int use) {
            Text text = use == 0 ? hearing : backing;
            if (text.length == 0) {
                return use == 0 ? 100 : 0;
            }
            know(s);
            return Math.max(0, Math.min(1000, workOut(text)));
        }

        /** What it knows, in the order of Reader.KNOWN. */
        private void know(Stone s) {
            int weight = 0, sense = UNREAD, many = 0;
            for (Line l = s.lines; l != null; l = l.next) {
                if (!l.dropped) {
                    weight = Math.max(weight, l.weight);
                    sense = Math.min(sense, l.sense);
                    many++;
                }
            }
            known[0] = monthsTaken(s.below & pile.taken);
            known[1] = weight;
            known[2] = many == 0 ? 0 : sense;
            known[3] = many;
            known[4] = Long.bitCount(copies.unmarkedOf(s.below));
            known[5] = s.a;
            known[6] = s.letter ? 1 : 0;
        }

        private int monthsTaken(long stones) {
            int most = 0;
            for (int n = 0; n < pile.stoneCount; n++) {
                if (isIn(stones, n)) {
                    most = Math.max(most, pile.now - pile.stones[n].since);
                }
            }
            return most;
        }

        private int workOut(Text text) {
            boolean passing = false;
            height = 0;
            for (int n = 0; n < text.length; n++) {
                int item = text.items[n];
                if (passing) {
                    passing = item != -';';
                } else if (item == -';') {
                    return pull();
                } else if (item == -'?') {
                    passing = pull() == 0;
                } else {
                    step(item);
                }
            }
            return 0;
        }

        private void step(int item) {
            int name = item < 0 ? Reader.KNOWN.indexOf((char) -item) : -1;
            if (item >= 0) {
                push(item);
            } else if (name >= 0) {
                push(known[name]);
            } else if (item == -Reader.NEGATED) {
                push(-pull());
            } else if (item == -'!') {
                push(pull() == 0 ? 1 : 0);
            } else {
                int second = pull(), first = pull();
                push(joined(-item, first, second));
            }
        }

        private static int joined(int sign, int x, int y) {
            switch (sign) {
                case '|': return x != 0 || y != 0 ? 1 : 0;
                case '&': return x != 0 && y != 0 ? 1 : 0;
                case '<': return x < y ? 1 : 0;
                case '=': return x == y ? 1 : 0;
                case '>': return x > y ? 1 : 0;
                case '+': return x + y;
                case '-': return x - y;
                case '*': return x * y;
                case '/': return y == 0 ? 0 : x / y;
                default: return y == 0 ? 0 : x % y;
            }
        }

        private void push(int v) {
            if (height < DEEPEST) {
                parts[height] = v;
                height++;
            }
        }

        private int pull() {
            if (height <= 0) {
                return 0;
            }
            height--;
            return parts[height];
        }

        /** The set (of places among the first STILL ones) to tell within h hours. */
        int bestSet(int h) {
            int sets = gatherSets(), best = 0;
            for (int set = 1; set < sets; set++) {
                if (hours[set] <= h && isBetter(set, best)) {
                    best = set;
                }
            }
            return best;
        }

        private boolean isBetter(int set, int best) {
            int more = Long.bitCount(covers[set]) - Long.bitCount(covers[best]);
            return more > 0 || more == 0 && hours[set] < hours[best];
        }

        private int gatherSets() {
            int sets = 1;
            covers[0] = 0;
            hours[0] = 0;
            for (int n = 0; n < pile.stoneCount && sets < covers.length; n++) {
                Stone s = pile.stones[n];
                if (pile.isStill(s)) {
                    long cover = pile.above(n) | bit(n);
                    for (int set = 0; set < sets; set++) {
                        covers[sets + set] = covers[set] | cover;
                        hours[sets + set] = hours[set] + s.a;
                    }
                    sets *= 2;
                }
            }
            return sets;
        }
    }

    /** Changes of weights, senses and marks: those done, and behind them those that may be done again. */
    private static final class Changes {
        private static final int MOST = 40;

        int done, kept;
        private final int[] whats = new int[MOST], ofs = new int[MOST], olds = new int[MOST], news = new int[MOST];
        private final Pile pile;
        private final Copies copies;

        Changes(Pile pile, Copies copies) {
            this.pile = pile;
            this.copies = copies;
        }

        /** What becomes no other one is no CHANGE: nothing could be UNDONE, and what may be DONE AGAIN stays. */
        void make(int what, int of, int was, int becomes) {
            if (becomes == was) {
                return;
            }
            if (done >= MOST) {
                forgetOldest();
            }
            whats[done] = what;
            ofs[done] = of;
            olds[done] = was;
            news[done] = becomes;
            done++;
            kept = done;
            set(what, of, becomes);
        }

        private void forgetOldest() {
            for (int n = 1; n < MOST; n++) {
                whats[n - 1] = whats[n];
                ofs[n - 1] = ofs[n];
                olds[n - 1] = olds[n];
                news[n - 1] = news[n];
            }
            done = MOST - 1;
        }

        boolean goBack() {
            if (done <= 0) {
                return false;
            }
            done--;
            set(whats[done], ofs[done], olds[done]);
            return true;
        }

        boolean goOn() {
            if (done >= kept || done >= MOST) {
                return false;
            }
            set(whats[done], ofs[done], news[done]);
            done++;
            return true;
        }

        private void set(int what, int of, int v) {
            Line l = pile.lineAt(of);
            if (what == WEIGHT && l != null) {
                l.weight = v;
            } else if (what == SENSE && l != null) {
                l.sense = v;
            } else if (what == MARK && copies.isCopy(of)) {
                copies.marks[of] = v;
            }
        }
    }

    /** Acts of a stone: which body runs, and the trace of those that ran. */
    private static final class Acts {
        /** By KIND: the next KIND above. */
        private static final int[] ABOVE = {-1, 0, 0, 2, 0, 4, 5};
        /** By KIND, four each: its own bodies of stands, falls, hears, tells (0: none). */
        private static final int[] OWN = {
            1, 10, 11, 2,
            0, 20, 0, 0,
            30, 0, 0, 0,
            0, 0, 40, 41,
            0, 50, 0, 0,
            0, 0, 60, 0,
            70, 0, 71, 0};
        private static final int STANDS = 0, FALLS = 1, HEARS = 2, TELLS = 3, DEEPEST = 24;

        final int[] bodies = new int[24];
        int ran;
        private int kind, n, c;

        int doAs(int as, Stone s, int act, int x) {
            kind = as;
            n = s.number;
            c = 0;
            for (Line l = s.lines; l != null; l = l.next) {
                if (!l.dropped) {
                    c++;
                }
            }
            return run(act, kind, x, 0);
        }

        /** The body from this KIND on upwards; it goes through kinds and acts in one direction, so never deep. */
        private int run(int act, int from, int x, int depth) {
            int body = bodyFrom(act, from), d = depth + 1;
            if (d > DEEPEST) {
                return 0;
            }
            begin(body);
            switch (body) {
                case 1: return x + n;
                case 2: return run(FALLS, kind, x, d) - run(HEARS, kind, 1, d);
                case 10: return run(STANDS, kind, x, d) * 2;
                case 11: return x ^ n;
                case 20: return run(FALLS, ABOVE[FIRST], x, d) + 3;
                case 30: return run(STANDS, ABOVE[SUMMED], x, d) + c;
                case 40: return run(HEARS, ABOVE[RULED], x, d) * 3;
                case 41: return run(TELLS, ABOVE[RULED], x, d) ^ 5;
                case 50: return -run(FALLS, ABOVE[SAID], x, d);
                case 60: return run(HEARS, ABOVE[HELD], x, d) - run(STANDS, kind, 2, d);
                case 70: return run(STANDS, ABOVE[STILL], x + 1, d);
                case 71: return run(HEARS, ABOVE[STILL], x, d) * 2;
                default: return 0;
            }
        }

        private static int bodyFrom(int act, int from) {
            int k = from;
            for (int up = 0; up <= STILL && k > STONE && OWN[4 * k + act] == 0; up++) {
                k = ABOVE[k];
            }
            return OWN[4 * k + act];
        }

        private void begin(int body) {
            if (ran < bodies.length) {
                bodies[ran] = body;
            }
            ran++;
        }
    }

    /** Places that hold nothing, a stone, or a row of numbers, and the host's refusals. */
    private static final class Places {
        private static final int EMPTY = -1, A_STONE = 5;

        private final int[] sorts = {EMPTY, EMPTY, EMPTY, EMPTY, EMPTY, EMPTY};
        private final int[] sizes = new int[PLACES], stones = new int[PLACES];
        private final long[] cells = new long[PLACES * ROW];

        boolean isPlace(int place) {
            return place >= 0 && place < PLACES;
        }

        boolean isEmpty(int place) {
            return sorts[place] == EMPTY;
        }

        boolean isRow(int place) {
            return sorts[place] >= BYTES && sorts[place] <= BOOLEANS;
        }

        boolean isRowOf(int place, int sort) {
            return sorts[place] == sort;
        }

        boolean areAlike(int place, int other) {
            return sorts[place] == sorts[other];
        }

        boolean hasElement(int place, int i) {
            return isRow(place) && i >= 0 && i < sizes[place];
        }

        /** The room behind i is told by a difference, as i + n might wrap. */
        boolean hasRange(int place, int i, int n) {
            return i >= 0 && n >= 0 && i <= sizes[place] && n <= sizes[place] - i;
        }

        int stoneIn(int place) {
            return sorts[place] == A_STONE ? stones[place] : -1;
        }

        void holdStone(int place, int stone) {
            sorts[place] = stone < 0 ? EMPTY : A_STONE;
            stones[place] = stone;
            sizes[place] = 0;
        }

        void holdRow(int place, int sort, int n) {
            sorts[place] = sort;
            sizes[place] = n;
            for (int i = 0; i < ROW; i++) {
                cells[place * ROW + i] = 0;
            }
        }

        /** What stands against using element i: BAD, a refusal of the host, or 0 for nothing. */
        int refuses(int place, int i) {
            if (!isPlace(place)) {
                return BAD;
            }
            if (isEmpty(place)) {
                return NOTHING;
            }
            if (!isRow(place)) {
                return OTHER_KIND;
            }
            return hasElement(place, i) ? 0 : NO_ELEMENT;
        }

        long at(int place, int i) {
            return cells[place * ROW + i];
        }

        void store(int place, int i, long v) {
            cells[place * ROW + i] = narrowed(sorts[place], v);
        }

        private static long narrowed(int sort, long v) {
            switch (sort) {
                case BYTES: return (byte) v;
                case SHORTS: return (short) v;
                case INTS: return (int) v;
                case LONGS: return v;
                default: return v != 0 ? 1 : 0;
            }
        }

        void move(int place, int i, int other, int j, int n) {
            System.arraycopy(cells, place * ROW + i, cells, other * ROW + j, n);
        }
    }
}
