/** The sentences on TAKEN (part 1) and of part 2 of the Terms that name a bound (promises 5 to 7, 9 to 16). */
public final class BoundsOfSumsTest {
    private BoundsOfSumsTest() {
    }

    public static void main(String[] args) {
        waysAndTenths();
        takenAgain();
        takenBackOnceMore();
        partsAreCutOneByOne();
        countsStopAtMost();
        worthByThePartsThemselves();
        worthTowardTheLesser();
        withoutCountsNone();
        whatTakenOnesCount();
        saysAboveZero();
        saysAtTheBar();
        saysOfARuledAlone();
        changeWithin();
        withAndWithout();
        withIsVoid();
        fallsThatWereAbove();
        turnsBothWays();
        turnsBesidesAllAsItIs();
        noneSuch();
        hangsOnOneToEight();
        hangsOnTheFirstEight();
        hangsOnTheLeastOfLikeOnes();
        hangsOnTheFewest();
        hangsOnNone();
        Check.end();
    }

    /** "by a WAY: 0 a SLIP of p tenths (1 .. 9), 1 a LIE, 2 a DOUBT"; p is any else. */
    private static void waysAndTenths() {
        Told x = new Told("10").due("stone(1, 1, 5)", 0);
        int[][] wrong = {{0, -1, 5}, {0, 3, 5}, {0, Told.LEAST, 5}, {0, Told.GREATEST, 5}, {0, 0, 0}, {0, 0, 10}, {0, 0, -1},
            {0, 0, Told.LEAST}, {0, 0, Told.GREATEST}, {1, 1, 5}, {-1, 1, 5}, {Told.GREATEST, 1, 5}, {Told.LEAST, 0, 5}};
        refuseAll(x, wrong);
        int[] anyTenths = {Told.LEAST, -1, 0, 10, Told.GREATEST};
        for (int p : anyTenths) {
            x.due("take(0, 1, " + p + ")", 0).due("ofStone(0, 2)", 0).due("take(0, 2, " + p + ")", 0).due("ofStone(0, 2)", 50);
        }
        for (int p = 1; p <= 9; p++) {
            x.due("take(0, 0, " + p + ")", 0).due("ofStone(0, 5)", 0).due("ofStone(0, 2)", 100 - 10 * p);
        }
        refuseAll(x, wrong);
        x.due("ofStone(0, 2)", 10);
    }

    private static void refuseAll(Told x, int[][] takes) {
        for (int[] t : takes) {
            x.refused("take(" + t[0] + ", " + t[1] + ", " + t[2] + ")", -1);
        }
    }

    /** "(Told again it is that, from NOW on.)" */
    private static void takenAgain() {
        Told x = new Told("10").due("stone(1, 1, 5)", 0).due("take(0, 0, 3)", 0).until(7).due("ofStone(0, 4)", 0);
        x.due("take(0, 0, 3)", 7).due("ofStone(0, 4)", 7).due("ofStone(0, 5)", 0).until(8);
        x.due("take(0, 1, 0)", 8).due("ofStone(0, 4)", 8).due("ofStone(0, 5)", 1).due("ofStone(0, 2)", 0);
        x.due("take(0, 2, 0)", 8).due("ofStone(0, 5)", 2).due("ofStone(0, 2)", 50);
    }

    /** "TAKEN BACK once more: it is not"; "since when it was. BAD; NOT: it was not." */
    private static void takenBackOnceMore() {
        Told x = new Told("11").plain(0, 1).due("stone(1, 1, 5)", 1).refused("restore(1)", Told.NOT).due("take(1, 1, 0)", 0);
        x.refused("restore(0)", Told.NOT).refused("restore(2)", -1).refused("restore(-1)", -1);
        x.refused("restore(" + Told.LEAST + ")", -1).refused("restore(" + Told.GREATEST + ")", -1);
        x.due("restore(1)", 0).due("ofStone(1, 4)", -1).due("ofStone(1, 5)", -1).due("ofStone(1, 2)", 100);
        x.refused("restore(1)", Told.NOT).until(599).due("take(1, 2, 0)", 599).due("restore(1)", 599).refused("restore(1)", Told.NOT);
    }

    /** "each times WEIGHT by 100 (cut, one by one)". */
    private static void partsAreCutOneByOne() {
        Told x = new Told("5").tell("stone(1, 1, 1); stone(1, 1, 1); stone(1, 1, 5)").plain(2, 5);
        x.tell("line(3, 0, 4)").due("ofStone(3, 2)", 0).due("change(0, 0, 5)", 4).due("ofStone(3, 2)", 1);
        x.due("change(0, 0, 9)", 5).due("ofStone(3, 2)", 1).due("change(0, 0, 10)", 9).due("ofStone(3, 2)", 2);
        x.tell("line(4, 0, 9); line(4, 1, 9)").due("ofStone(4, 2)", 2).tell("line(5, 2, 1)").due("ofStone(5, 2)", 1);
        x.tell("line(6, 2, 99)").due("ofStone(6, 2)", 99).tell("line(7, 3, 99)").due("ofStone(7, 2)", 1);
    }

    /** FIRST 0 counts 19980, each later one of many the 99th part of all ahead of it, each cut. */
    private static Told doubling(String promise, int stones) {
        Told x = new Told(promise).due("stone(1, 999, 999)", 0).plain(2, stones - 1);
        int come = 0;
        for (int s = 1; s < stones; s++) {
            for (int on = 0; on < s; on++) {
                x.due("line(" + s + ", " + on + ", 99)", come++);
            }
        }
        return x;
    }

    /** "1000000000 at most". */
    private static void countsStopAtMost() {
        Told x = doubling("5", 19);
        long[] counts = new long[19];
        counts[0] = 19980;
        for (int s = 1; s < 19; s++) {
            for (int on = 0; on < s; on++) {
                counts[s] += counts[on] * 99 / 100;
            }
            x.due("ofStone(" + s + ", 2)", Math.min(counts[s], 1000000000));
            counts[s] = Math.min(counts[s], 1000000000);
        }
        Check.due("5: one is below the most", counts[16] > 500000000 && counts[16] < 1000000000 ? 1 : 0, 1);
        Check.due("5: one is above", counts[17] == 1000000000 ? 1 : 0, 1);
        x.due("with(18, 17, 0)", 1000000000).due("take(17, 0, 1)", 0).due("ofStone(17, 2)", 900000000);
        x.due("take(17, 2, 0)", 0).due("ofStone(17, 2)", 500000000).due("with(17, 17, 2)", 1000000000);
    }

    /** "WORTH the sum of these parts times the WORTH .. by the sum of these parts": by these, not by 1000000000. */
    private static void worthByThePartsThemselves() {
        Told x = doubling("6", 20);
        for (int s = 0; s < 20; s++) {
            x.due("worth(" + s + ")", 999000);
        }
        x.due("change(0, 1, 1)", 0).due("worth(1)", -999000);
    }

    /** FIRST 0 of a RESULT whose part is 999, FIRST 1 whose part is 1, 2 on both. */
    private static Told thousandParts(String promise, int result, int other, int sense) {
        Told x = new Told(promise).tell("stone(1, " + result + ", 999); stone(1, " + other + ", 1); stone(2, 0, 0)");
        return x.tell("line(2, 0, " + (100 * sense + 5) + "); line(2, 1, " + (100 * sense + 5) + ")").due("ofStone(2, 2)", 1000);
    }

    /** "by the sum of these parts (toward the lesser)", "(against: less it)", "SENSE 2 is as for". */
    private static void worthTowardTheLesser() {
        thousandParts("6", 1, 2, 0).due("worth(2)", 1001);
        thousandParts("6", 1, 2, 2).due("worth(2)", 1001);
        thousandParts("6", 1, 2, 1).due("worth(2)", -1001);
        Told x = new Told("6").tell("stone(1, 1, 1); stone(1, 2, 1); stone(2, 0, 0); line(2, 0, 50); line(2, 1, 25)");
        // parts 10 and 5: (10 * 1000 + 5 * 2000) / 15 = 1333.3
        x.due("worth(2)", 1333).tell("change(0, 1, 1); change(1, 1, 1)").due("worth(2)", -1334);
        x.tell("change(0, 1, 2); change(1, 1, 2)").due("worth(2)", 1333).tell("change(1, 1, 1)").due("worth(2)", 0);
        x.tell("stone(1, -1, 1); stone(1, 0, 1); stone(2, 0, 0); line(5, 3, 5); line(5, 4, 10)");
        // parts 1 and 2: -1000 / 3 = -333.3
        x.due("worth(5)", -334).tell("change(2, 1, 1)").due("worth(5)", 333);
    }

    /** "without COUNTS it is 0 and none". */
    private static void withoutCountsNone() {
        Told x = new Told("6").tell("stone(1, 7, 1)").plain(2, 2).due("ofStone(1, 2)", 0).due("worth(1)", Told.VOID);
        x.tell("line(1, 0, 4)").due("ofStone(1, 2)", 0).due("worth(1)", Told.VOID);
        x.tell("change(0, 0, 5)").due("ofStone(1, 2)", 1).due("worth(1)", 7000);
        x.tell("line(2, 1, 99)").due("ofStone(2, 2)", 0).due("worth(2)", Told.VOID);
        x.tell("take(0, 1, 0)").due("ofStone(1, 2)", 0).due("worth(1)", Told.VOID).due("worth(0)", 7000);
        x.tell("restore(0); take(1, 1, 0)").due("ofStone(1, 2)", 0).due("worth(1)", 7000);
    }

    /** "COUNTS times 10 less p tenths (cut; a SLIP), 0 (a LIE), half (cut; a DOUBT)"; "WORTH is that ahead of TAKEN". */
    private static void whatTakenOnesCount() {
        Told x = new Told("5").tell("stone(1, 3, 1)").plain(2, 1).tell("line(1, 0, 99)").due("ofStone(1, 2)", 19);
        int[] slips = {17, 15, 13, 11, 9, 7, 5, 3, 1};
        for (int p = 1; p <= 9; p++) {
            x.due("take(1, 0, " + p + ")", 0).due("ofStone(1, 2)", slips[p - 1]).due("worth(1)", 3000);
        }
        x.due("take(1, 2, 0)", 0).due("ofStone(1, 2)", 9).due("take(1, 1, 0)", 0).due("ofStone(1, 2)", 0);
        x.due("worth(1)", 3000).tell("change(0, 0, 5)").due("ofStone(1, 2)", 0);
        x.due("take(1, 2, 0)", 0).due("ofStone(1, 2)", 0).due("take(1, 0, 1)", 0).due("ofStone(1, 2)", 0);
        x.due("restore(1)", 0).due("ofStone(1, 2)", 1).due("worth(1)", 3000);
    }

    /** "YES (1) if it COUNTS above 0". */
    private static void saysAboveZero() {
        Told x = new Told("7").tell("stone(1, 5, 1); stone(3, -999, 0)").due("says(1)", 0).tell("line(1, 0, 4)").due("says(1)", 0);
        x.tell("change(0, 0, 5)").due("ofStone(1, 2)", 1).due("says(1)", 1);
        x.tell("take(1, 0, 1)").due("ofStone(1, 2)", 0).due("worth(1)", 5000).due("says(1)", 0);
        x.tell("change(0, 0, 10)").due("ofStone(1, 2)", 1).due("says(1)", 1).tell("take(1, 1, 0)").due("says(1)", 0);
    }

    /** "and its WORTH is 1000 times its BAR or more, else NO". */
    private static void saysAtTheBar() {
        int[][] of = {{1, 0, 1, 0, 999}, {1, 1, 1, 1, 1000}, {1, 2, 1, 1, 1001}, {-1, -2, -1, 0, -1001}, {-1, -1, -1, 1, -1000},
            {-1, 0, -1, 1, -999}, {0, -1, 0, 0, -1}, {0, 0, 0, 1, 0}, {0, 1, 0, 1, 1}};
        for (int[] o : of) {
            Told x = new Told("7").tell("stone(1, " + o[0] + ", 999); stone(1, " + o[1] + ", 1); stone(3, " + o[2] + ", 0)");
            x.tell("line(2, 0, 5); line(2, 1, 5)").due("worth(2)", o[4]).due("says(2)", o[3]);
        }
    }

    /** "SAYS of a RULED: 1, 0. BAD." */
    private static void saysOfARuledAlone() {
        Told x = new Told("7");
        for (int kind = 0; kind < 6; kind++) {
            x.tell("stone(" + kind + ", 1, 1)");
        }
        int[] wrong = {Told.LEAST, -1, 0, 1, 2, 4, 5, 6, Told.GREATEST};
        for (int s : wrong) {
            x.refused("says(" + s + ")", -1).refused("hangs(" + s + ")", -1).refused("hung(" + s + ")", -1);
        }
        x.due("says(3)", 0);
    }

    /** "WEIGHT (what 0: 1 .. 99) or SENSE (1: 0 .. 2) of a LINE becomes v: what it was. BAD." */
    private static void changeWithin() {
        Told x = new Told("9").plain(0, 2).due("line(1, 0, 150)", 0).due("change(0, 0, 60)", 50).due("undo()", 0);
        int[][] wrong = {{0, 0, 0}, {0, 0, 100}, {0, 0, -1}, {0, 0, Told.LEAST}, {0, 0, Told.GREATEST}, {0, 1, -1}, {0, 1, 3},
            {0, 1, Told.LEAST}, {0, 1, Told.GREATEST}, {0, 2, 1}, {0, -1, 1}, {0, Told.LEAST, 1}, {0, Told.GREATEST, 1},
            {1, 0, 1}, {1, 1, 1}, {-1, 0, 1}, {Told.LEAST, 0, 1}, {Told.GREATEST, 1, 1}};
        for (int[] w : wrong) {
            x.refused("change(" + w[0] + ", " + w[1] + ", " + w[2] + ")", -1);
        }
        x.due("redo()", 0).due("change(0, 0, 1)", 60).due("ofLine(0, 2)", 1).due("change(0, 0, 99)", 1).due("ofLine(0, 2)", 99);
        x.due("change(0, 1, 0)", 1).due("ofLine(0, 3)", 0).due("change(0, 1, 2)", 0).due("ofLine(0, 3)", 2);
        x.due("change(0, 1, 1)", 2).due("ofLine(0, 3)", 1).due("count(5)", 6);
    }

    /** "WITH a STONE TAKEN by a LIE in thought (besides all as it is), WITHOUT one as if it stood (not TAKEN)". */
    private static void withAndWithout() {
        Told x = new Told("12").tell("stone(1, 10, 5); stone(1, 20, 5); stone(2, 0, 0); line(2, 0, 50); line(2, 1, 50)");
        x.due("with(0, 2, 0)", 50).due("with(0, 2, 1)", 20000).due("with(0, 2, 2)", 100).due("with(0, 2, 3)", 15000);
        x.due("with(0, 0, 0)", 0).due("with(0, 0, 1)", 10000).due("with(2, 2, 0)", 0).due("with(2, 2, 1)", 15000);
        x.tell("take(1, 1, 0)").due("with(0, 2, 0)", 0).due("with(0, 2, 1)", Told.VOID).due("with(1, 2, 0)", 50);
        x.due("with(1, 2, 2)", 100).due("with(1, 2, 3)", 15000).due("with(0, 2, 2)", 50).due("with(0, 2, 3)", 10000);
        x.tell("take(0, 0, 9)").due("with(0, 2, 2)", 50).due("with(1, 2, 2)", 55).due("with(2, 2, 2)", 5).due("with(2, 0, 0)", 10);
        x.due("ofStone(2, 2)", 5).due("ofStone(0, 5)", 0).due("ofStone(1, 5)", 1);
    }

    /** "VOID: BAD." */
    private static void withIsVoid() {
        Told x = new Told("12").tell("stone(1, 10, 5); stone(2, 0, 0); line(1, 0, 50); take(0, 0, 5)");
        int[][] wrong = {{2, 0, 0}, {0, 2, 0}, {-1, 0, 0}, {0, -1, 0}, {0, 1, -1}, {0, 1, 4}, {Told.LEAST, 0, 1},
            {0, Told.GREATEST, 2}, {0, 1, Told.LEAST}, {0, 1, Told.GREATEST}};
        for (int[] w : wrong) {
            x.refused("with(" + w[0] + ", " + w[1] + ", " + w[2] + ")", Told.VOID);
        }
        x.due("with(0, 1, 0)", 0).due("with(0, 1, 3)", 10000);
    }

    /** "FALLS with it: STONES whose COUNTS become 0 that were above 0". */
    private static void fallsThatWereAbove() {
        Told x = new Told("13").tell("stone(1, 1, 1); stone(1, 1, 1)").plain(2, 3);
        x.tell("line(2, 0, 5); line(3, 0, 5); line(3, 1, 5); line(4, 0, 4)");
        x.due("falls(0, -1)", 2).due("falls(0, 0)", 0).due("falls(0, 1)", 2).refused("falls(0, 2)", -1);
        x.due("falls(4, -1)", 0).refused("falls(4, 0)", -1).due("falls(2, -1)", 1).due("falls(2, 0)", 2);
        x.tell("take(1, 0, 9)").due("ofStone(1, 2)", 2).due("falls(0, -1)", 3).due("falls(0, 2)", 3).due("falls(1, -1)", 1);
        x.tell("take(0, 1, 0)").due("falls(0, -1)", 0).refused("falls(0, 0)", -1);
        Told y = new Told("13").tell("stone(1, 1, 999)").plain(2, 63);
        for (int s = 1; s < 64; s++) {
            y.tell("line(" + s + ", 0, 50)");
        }
        y.due("falls(0, -1)", 64).due("falls(0, 0)", 0).due("falls(0, 63)", 63).refused("falls(0, 64)", -1);
    }

    /** "TURNS: RULED ones whose SAYS becomes another one": from YES to NO and from NO to YES. */
    private static void turnsBothWays() {
        Told x = new Told("14").tell("stone(1, 10, 5); stone(1, -10, 5); stone(3, 0, 0); stone(3, 1, 0); stone(3, 11, 0)");
        x.tell("line(2, 0, 50); line(2, 1, 50); line(3, 0, 50); line(3, 1, 50); line(4, 0, 50); line(4, 1, 50)");
        x.due("says(2)", 1).due("says(3)", 0).due("says(4)", 0);
        x.due("turned(0, -1)", 1).due("turned(0, 0)", 2).refused("turned(0, 1)", -1);
        x.due("turned(1, -1)", 1).due("turned(1, 0)", 3).refused("turned(1, 1)", -1);
        x.due("turned(2, -1)", 1).due("turned(2, 0)", 2).due("turned(3, -1)", 0).refused("turned(3, 0)", -1);
        x.tell("take(0, 1, 0)").due("says(2)", 0).due("turned(0, -1)", 0).refused("turned(0, 0)", -1).due("turned(1, -1)", 0);
        // 0 in half: 2 says NO already, and with 1 both say YES
        x.tell("take(0, 2, 0)").due("says(2)", 0).due("turned(0, -1)", 0).due("turned(1, -1)", 2).due("turned(1, 0)", 2).due("turned(1, 1)", 3);
    }

    /** "(besides all as it is)": what is TAKEN is TAKEN in thought, too, the first STONE and the last. */
    private static void turnsBesidesAllAsItIs() {
        Told x = new Told("14").tell("stone(1, 10, 5); stone(1, -10, 5); stone(1, 1, 5); stone(3, 0, 0)");
        x.tell("line(3, 0, 50); line(3, 1, 50); line(3, 2, 50); take(0, 1, 0)").due("says(3)", 0).due("turned(2, -1)", 0);
        x.due("turned(1, -1)", 1).due("falls(1, -1)", 1).due("falls(2, -1)", 1).tell("take(2, 1, 0)").due("falls(1, -1)", 2);
        x.due("falls(1, 1)", 3).due("turned(1, -1)", 0).tell("restore(0)").due("says(3)", 1).due("turned(0, -1)", 1);
    }

    /** "how many (i -1), the i-th. BAD (also none such)." */
    private static void noneSuch() {
        Told x = new Told("13").tell("stone(1, 10, 5); stone(3, 0, 0); line(1, 0, 50)");
        int[] noSuch = {Told.LEAST, -2, 2, 64, Told.GREATEST};
        for (int i : noSuch) {
            x.refused("falls(0, " + i + ")", -1).refused("turned(0, " + i + ")", -1);
        }
        int[] noStone = {Told.LEAST, -1, 2, Told.GREATEST};
        for (int s : noStone) {
            x.refused("falls(" + s + ", -1)", -1).refused("turned(" + s + ", -1)", -1);
            x.refused("falls(" + s + ", 0)", -1).refused("turned(" + s + ", 0)", -1);
        }
        x.due("falls(0, -1)", 2).due("falls(0, 1)", 1).due("turned(0, -1)", 1).due("turned(0, 0)", 1);
    }

    /** As many FIRSTS, 10 each, and a RULED on all of them, BAR 5: it says YES until none is left. */
    private static Told onFirsts(int firsts) {
        Told x = new Told("15");
        for (int n = 0; n < firsts; n++) {
            x.tell("stone(1, 10, 5)");
        }
        x.tell("stone(3, 5, 0)");
        for (int n = 0; n < firsts; n++) {
            x.tell("line(" + firsts + ", " + n + ", 50)");
        }
        return x.due("says(" + firsts + ")", firsts == 0 ? 0 : 1);
    }

    /** "the fewest FIRSTS": from one up to all eight. */
    private static void hangsOnOneToEight() {
        for (int n = 1; n <= 8; n++) {
            onFirsts(n).due("hangs(" + n + ")", n).due("hung(" + n + ")", (1 << n) - 1);
        }
        onFirsts(0).refused("hangs(0)", Told.NOT).refused("hung(0)", Told.NOT);
        onFirsts(9).refused("hangs(9)", Told.NOT).refused("hung(9)", Told.NOT);
    }

    /** "(of the first 8 that are not TAKEN and on which it stands, along all)". */
    private static void hangsOnTheFirstEight() {
        onFirsts(9).tell("take(3, 1, 0)").due("hangs(9)", 8).due("hung(9)", 511 - 8);
        onFirsts(10).tell("take(3, 1, 0)").refused("hangs(10)", Told.NOT).tell("take(9, 1, 0)").due("hung(10)", 511 - 8);
        Told x = new Told("16");
        for (int n = 0; n < 10; n++) {
            x.tell("stone(1, " + (n < 8 ? 1 : 10) + ", 5)");
        }
        x.plain(4, 1).tell("stone(3, 5, 0); stone(3, 5, 0); line(10, 8, 99)");
        for (int n = 0; n < 7; n++) {
            x.tell("line(11, " + n + ", 1); line(12, " + n + ", 1)");
        }
        x.tell("line(11, 10, 99)").due("says(11)", 1).due("hangs(11)", 1).due("hung(11)", 256);
        x.tell("line(12, 7, 1); line(12, 10, 99)").due("says(12)", 1).refused("hangs(12)", Told.NOT).refused("hung(12)", Told.NOT);
        x.tell("take(0, 0, 1)").due("hangs(12)", 1).due("hung(12)", 256).tell("take(8, 0, 1)").refused("hangs(12)", Told.NOT);
    }

    /** "as bits of STONES (of like ones the least)": 1 and 2 (6) come ahead of 0 and 4 (17), 1 and 4, 2 and 4. */
    private static void hangsOnTheLeastOfLikeOnes() {
        int[] results = {-2, -5, -5, 0, -8, 10};
        Told x = new Told("16");
        for (int r : results) {
            x.tell("stone(1, " + r + ", 1)");
        }
        x.tell("stone(3, 0, 0)");
        for (int n = 0; n < 6; n++) {
            x.tell("line(6, " + n + ", 50)");
        }
        // -10 in all: without -5 and -5, or -2 and -8, it is 0
        x.due("says(6)", 0).due("hangs(6)", 2).due("hung(6)", 6).tell("take(1, 1, 0)");
        // -5 in all: without -5, or -8, it is 0 or more
        x.due("hangs(6)", 1).due("hung(6)", 4).tell("take(2, 2, 0)").due("hung(6)", 16);
    }

    /** "the fewest": one (4) comes ahead of two that are less as bits (3). */
    private static void hangsOnTheFewest() {
        Told x = new Told("15").tell("stone(1, -5, 1); stone(1, -5, 1); stone(1, -10, 1); stone(1, 10, 1); stone(3, 0, 0)");
        for (int n = 0; n < 4; n++) {
            x.tell("line(4, " + n + ", 50)");
        }
        x.due("says(4)", 0).due("hangs(4)", 1).due("hung(4)", 4).tell("take(2, 2, 0)").due("hangs(4)", 1).due("hung(4)", 1);
    }

    /** "NOT: none do": nothing to stand on, none that is not TAKEN, or none that turns it. */
    private static void hangsOnNone() {
        Told x = new Told("15").tell("stone(3, 0, 0); stone(1, 5, 5); stone(3, 6, 0); stone(3, 5, 0); line(2, 1, 50); line(3, 1, 50)");
        x.refused("hangs(0)", Told.NOT).refused("hung(0)", Told.NOT).refused("hangs(2)", Told.NOT).refused("hung(2)", Told.NOT);
        x.due("hangs(3)", 1).due("hung(3)", 2).tell("take(1, 0, 1)").refused("hangs(3)", Told.NOT).refused("hung(3)", Told.NOT);
        x.tell("restore(1); take(3, 2, 0)").due("hangs(3)", 1).tell("take(3, 1, 0)").refused("hangs(3)", Told.NOT);
    }
}
