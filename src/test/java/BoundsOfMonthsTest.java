/** The sentences of part 3 of the Terms on MONTHS that go by, draws and odds that name a bound (promises 17, 18, 21, 22). */
public final class BoundsOfMonthsTest {
    private BoundsOfMonthsTest() {
    }

    public static void main(String[] args) {
        seeds();
        drawsThatWrap();
        drawsAtTheEnds();
        drawsBelowBack();
        heldWithinAThousand();
        withoutAText();
        eachOneHearsOnce();
        askedAsItIsThen();
        linesToThoseTakenThen();
        weightBecomes99();
        undoneAsAChangeHadIt();
        whatItKnowsAtTheEnds();
        marksItKnows();
        oddsOfAHeldOne();
        letters();
        Check.end();
    }

    /** The document's draw, in ints. */
    private static int draw(int seed, int stone, int now, int use) {
        int z = seed * 69069 + 7919 * stone + 104729 * now + 13 * use;
        z = (z ^ z >>> 15) * 1274126177;
        return (z >>> 7) % 1000;
    }

    /** A FIRST and, on it, as many HELD ones; the FIRST is TAKEN. */
    private static Told heads(String promise, int many) {
        Told x = new Told(promise).tell("stone(1, 1, 1)");
        for (int n = 1; n <= many; n++) {
            x.tell("stone(5, 1, 0); line(" + n + ", 0, 50)");
        }
        return x.tell("take(0, 1, 0)");
    }

    /** "SEED becomes v: what it was"; "SEED (0 at first)". */
    private static void seeds() {
        Told x = new Told("17");
        int was = 0;
        for (int v : new int[] {Told.LEAST, Told.GREATEST, -1, 0, 1}) {
            x.due("seed(" + v + ")", was);
            was = v;
        }
        x.due("seed(1)", 1).due("seed(0)", 1);
    }

    /** "z = SEED .. (ints)": with the greatest and the least SEED, the last STONE and the last MONTHS. */
    private static void drawsThatWrap() {
        for (int seed : new int[] {0, Told.LEAST, Told.GREATEST, -1, 31091, 62182}) {
            Told x = new Told("18").tell("seed(" + seed + "); stone(1, 1, 1)").plain(0, 61);
            x.tell("stone(5, 1, 0); stone(5, 1, 0); line(62, 0, 5); line(63, 0, 5); take(0, 1, 0)").text(0, "0", 1).until(559);
            x.text(0, "60", 1).text(1, "500", 1);
            int[] heard = new int[64];
            for (int now = 560; now <= 599; now++) {
                int many = 0;
                for (int s = 62; s < 64; s++) {
                    if (heard[s] == 0 && draw(seed, s, now, 0) < 60) {
                        heard[s] = draw(seed, s, now, 1) < 500 ? 2 : 1;
                        many++;
                    }
                }
                x.due("months(1)", many).due("ofStone(62, 6)", heard[62]).due("ofStone(63, 6)", heard[63]);
            }
        }
    }

    /** The first SEED from 0 on by which STONE 1 draws v in MONTH 1. */
    private static int seedOf(int v, int use) {
        int seed = 0;
        while (draw(seed, 1, 1, use) != v) {
            seed++;
        }
        return seed;
    }

    /** "if the draw is below it HEARS": draws of 0 and 999, and odds on both sides. */
    private static void drawsAtTheEnds() {
        for (int v : new int[] {0, 1, 500, 998, 999}) {
            int seed = seedOf(v, 0);
            heads("18", 1).tell("seed(" + seed + ")").text(0, "" + v, 1).due("months(1)", 0).due("ofStone(1, 6)", 0);
            heads("18", 1).tell("seed(" + seed + ")").text(0, "" + (v + 1), 1).due("months(1)", 1).due("ofStone(1, 6)", 1);
        }
        heads("18", 1).tell("seed(" + seedOf(0, 0) + ")").text(0, "-1", 1).due("months(1)", 0);
        heads("18", 1).tell("seed(" + seedOf(999, 0) + ")").text(0, "9999", 1).due("months(1)", 1);
    }

    /** "if a draw (use 1) is below BACK (likewise) it HOLDS THE MORE, else it DROPS". */
    private static void drawsBelowBack() {
        for (int v : new int[] {0, 1, 500, 998, 999}) {
            int seed = seedOf(v, 1);
            Told x = heads("18", 1).tell("seed(" + seed + ")").text(0, "1000", 1).text(1, "" + v, 1);
            x.due("months(1)", 1).due("ofStone(1, 6)", 1).due("ofLine(0, 4)", 1).due("ofLine(0, 2)", 50);
            Told y = heads("18", 1).tell("seed(" + seed + ")").text(0, "1000", 1).text(1, "" + (v + 1), 1);
            y.due("months(1)", 1).due("ofStone(1, 6)", 2).due("ofLine(0, 4)", 0).due("ofLine(0, 2)", 99);
        }
    }

    /** "(held within 0 .. 1000)". */
    private static void heldWithinAThousand() {
        Told x = new Told("21").tell("stone(5, 9, 0)");
        x.odds(0, "1000", 1000).odds(0, "1001", 1000).odds(0, "999", 999).odds(0, "9999", 1000).odds(0, "9999*9999", 1000);
        x.odds(0, "0", 0).odds(0, "-1", 0).odds(0, "1", 1).odds(0, "-9999*9999", 0).odds(0, "1-2", 0);
        x.text(1, "1001", 1).due("odds(0, 1)", 1000).text(1, "-1", 1).due("odds(0, 1)", 0).text(1, "999", 1).due("odds(0, 1)", 999);
    }

    /** "HEARS (without one 100), BACK (0)". */
    private static void withoutAText() {
        for (int v : new int[] {99, 100}) {
            Told x = heads("18", 1).tell("seed(" + seedOf(v, 0) + ")").due("odds(1, 0)", 100).due("odds(1, 1)", 0);
            x.due("months(1)", v < 100 ? 1 : 0);
        }
        Told y = heads("18", 1).tell("seed(" + seedOf(0, 1) + ")").text(0, "1000", 1).due("months(1)", 1).due("ofStone(1, 6)", 1);
        y.text(0, "1?", -102).due("odds(1, 0)", 1000).text(1, "?", -100).due("odds(1, 1)", 0);
    }

    /** "each HELD one that is STILL .. HEARS": how many HEARD, in one MONTH or in 24, and none twice. */
    private static void eachOneHearsOnce() {
        Told x = heads("18", 63).text(0, "1000", 1).due("months(1)", 63).due("months(24)", 0).due("ofStone(63, 6)", 1);
        x.refused("months(25)", -1).due("ofStone(1, 6)", 1);
        Told y = heads("18", 63).text(0, "m=24?1000;0", 1).due("months(24)", 63);
        y.due("ofStone(1, 6)", 1).due("ofStone(63, 6)", 1);
        Told z = heads("18", 63).text(0, "m=25?1000;0", 1).due("months(24)", 0).due("ofStone(63, 6)", 0).due("months(1)", 63);
        z.due("months(1)", 0);
        Told w = heads("18", 3).tell("change(0, 0, 1); change(1, 0, 2); change(2, 0, 25)").text(0, "m=w?1000;0", 1);
        w.due("months(24)", 2).due("ofStone(3, 6)", 0).due("months(24)", 1).due("ofStone(3, 6)", 1);
        heads("18", 2).tell("restore(0)").text(0, "1000", 1).due("months(24)", 0).due("ofStone(1, 6)", 0);
    }

    /** "then the next one. (What it stands on is asked as it is then.)" */
    private static void askedAsItIsThen() {
        Told x = new Told("18").tell("stone(1, 1, 1); stone(5, 1, 0); stone(5, 1, 0); stone(5, 1, 0)").text(0, "1000", 1);
        x.tell("line(1, 0, 50); line(2, 1, 50); line(3, 2, 50); line(3, 0, 50); take(0, 1, 0)");
        x.due("ofStone(2, 0)", 6).due("months(1)", 2).due("ofStone(1, 6)", 1).due("ofStone(2, 6)", 0).due("ofStone(3, 6)", 1);
        x.due("ofStone(2, 0)", 5).due("months(24)", 0);
        Told y = new Told("18").tell("stone(1, 1, 1); stone(5, 1, 0); stone(5, 1, 0)").text(0, "1000", 1).text(1, "1000", 1);
        y.tell("line(1, 0, 50); line(2, 1, 50); take(0, 1, 0)").due("months(1)", 2).due("ofStone(2, 6)", 2);
        y.due("ofLine(0, 2)", 99).due("ofLine(1, 2)", 50);
    }

    /** "HELD ones .. that HEARD have DROPPED all LINES to STONES that were TAKEN then": not those TAKEN later, nor along others. */
    private static void linesToThoseTakenThen() {
        Told x = new Told("18").tell("stone(1, 1, 1); stone(1, 1, 1); stone(4, 0, 0); stone(1, 1, 1); stone(5, 1, 0)");
        x.tell("line(2, 0, 50); line(4, 0, 51); line(4, 1, 52); line(4, 2, 53); line(4, 3, 54); take(0, 0, 1); take(3, 2, 0)");
        x.text(0, "1000", 1).due("months(1)", 1).tell("take(1, 1, 0); take(2, 1, 0)").due("months(24)", 0);
        int[] dropped = {0, 1, 0, 0, 1};
        for (int l = 0; l < 5; l++) {
            x.due("ofLine(" + l + ", 4)", dropped[l]);
        }
        x.due("ofStone(4, 3)", 4).due("ofStone(0, 8)", 2).due("ofStone(3, 8)", 0).odds(4, "n", 2).odds(4, "w", 53);
    }

    /** "of ones that HOLD THE MORE the WEIGHT of these becomes 99 (no CHANGE ..)". */
    private static void weightBecomes99() {
        Told x = new Told("18").tell("stone(1, 1, 1); stone(1, 1, 1); stone(5, 1, 0); line(2, 0, 201); line(2, 1, 101)");
        x.text(0, "1000", 1).text(1, "1000", 1).tell("take(0, 1, 0); change(1, 0, 2); undo()").due("months(1)", 1);
        x.due("ofLine(0, 2)", 99).due("ofLine(0, 3)", 2).due("ofLine(1, 2)", 1).due("count(5)", 0).due("redo()", 0);
        x.due("ofLine(1, 2)", 2).due("take(1, 1, 0)", 1).due("months(24)", 0).due("ofLine(1, 2)", 2);
    }

    /** "what is UNDONE is put back as a CHANGE had it, whatever came between". */
    private static void undoneAsAChangeHadIt() {
        Told x = heads("33", 1).text(0, "1000", 1).text(1, "1000", 1).due("change(0, 0, 1)", 50).due("months(1)", 1);
        x.due("ofLine(0, 2)", 99).due("change(0, 0, 98)", 99).due("undo()", 1).due("ofLine(0, 2)", 99);
        x.due("undo()", 0).due("ofLine(0, 2)", 50).due("redo()", 1).due("ofLine(0, 2)", 1).due("redo()", 0);
        x.due("ofLine(0, 2)", 98).due("count(5)", 2);
        Told y = heads("34", 1).text(0, "1000", 1).text(1, "1000", 1).tell("change(0, 0, 1); undo()").due("months(1)", 1);
        y.due("ofLine(0, 2)", 99).due("redo()", 0).due("ofLine(0, 2)", 1).due("undo()", 0).due("ofLine(0, 2)", 50);
        Told z = heads("33", 1).text(0, "1000", 1).tell("change(0, 0, 1)").due("months(1)", 1).due("ofLine(0, 4)", 1);
        z.due("undo()", 0).due("ofLine(0, 2)", 50).due("ofLine(0, 4)", 1).due("redo()", 0).due("ofLine(0, 2)", 1).due("ofLine(0, 4)", 1);
    }

    /** NAMES of a TEXT: m 0 .. 599, w and s 0 without LINES, w 1 .. 99, s 0 .. 2, n, h 1 .. 9, l 0 or 1. */
    private static void whatItKnowsAtTheEnds() {
        Told x = new Told("21").tell("stone(5, 9, 0); stone(1, 1, 1); stone(1, 1, 1); stone(5, 1, 0)");
        for (String none : new String[] {"m", "w", "s", "n", "c", "l"}) {
            x.odds(0, none, 0).odds(3, none, 0);
        }
        x.odds(0, "h", 9).odds(3, "h", 1).tell("line(3, 1, 201)").odds(3, "w", 1).odds(3, "s", 2).odds(3, "n", 1);
        x.tell("line(3, 2, 199)").odds(3, "w", 99).odds(3, "s", 1).odds(3, "n", 2).tell("line(3, 0, 50)").odds(3, "s", 0);
        x.tell("take(0, 1, 0)").odds(0, "m", 0).odds(3, "m", 0).odds(3, "1000", 1000).odds(3, "0", 0).until(1);
        x.odds(3, "m", 1).odds(0, "m", 0).odds(3, "0", 0).until(598).tell("take(1, 0, 1)").until(599);
        x.odds(3, "m", 599).tell("restore(0)").odds(3, "m", 1).tell("restore(1)").odds(3, "m", 0);
        x.odds(3, "l", 0).tell("letter(3)").odds(3, "l", 1).odds(0, "l", 0).tell("letter(3)").odds(3, "l", 1);
        Told y = new Told("21").plain(0, 63).tell("stone(5, 1, 0)");
        for (int n = 0; n < 63; n++) {
            y.tell("line(63, " + n + ", 1)");
        }
        y.odds(63, "n", 63);
    }

    /** "c how many COPIES of TAKEN STONES on which it stands bear no MARK": from none up to all 60. */
    private static void marksItKnows() {
        Told x = new Told("21").tell("stone(1, 1, 1); stone(4, 0, 0); stone(5, 1, 0); line(1, 0, 50); line(2, 1, 50)");
        for (int n = 0; n < 60; n++) {
            x.tell("copy(" + (n < 58 ? 0 : n == 58 ? 1 : 2) + ", 1)");
        }
        x.odds(2, "c", 0).tell("take(0, 1, 0)").odds(2, "c", 58).tell("mark(57, 1)").odds(2, "c", 57).tell("take(2, 1, 0)");
        x.odds(2, "c", 57).tell("take(1, 2, 0)").odds(2, "c", 58).tell("mark(57, 0)").odds(2, "c", 59).tell("restore(0)");
        x.odds(2, "c", 1).tell("mark(58, 1)").odds(2, "c", 0);
    }

    /** "What the TEXT of a USE gives for a HELD one now .. BAD." */
    private static void oddsOfAHeldOne() {
        Told x = new Told("21");
        for (int kind = 0; kind < 6; kind++) {
            x.tell("stone(" + kind + ", 1, 1)");
        }
        x.text(0, "7", 1).text(1, "8", 1);
        for (int s : new int[] {Told.LEAST, -1, 0, 1, 2, 3, 4, 6, Told.GREATEST}) {
            x.refused("odds(" + s + ", 0)", -1).refused("odds(" + s + ", 1)", -1).refused("letter(" + s + ")", -1);
        }
        for (int use : new int[] {Told.LEAST, -1, 2, Told.GREATEST}) {
            x.refused("odds(5, " + use + ")", -1);
        }
        x.due("odds(5, 0)", 7).due("odds(5, 1)", 8).tell("line(5, 1, 1); take(1, 1, 0)").due("ofStone(5, 0)", 6).due("odds(5, 0)", 7);
    }

    /** "A LETTER is told to a HELD one: 1; 0: it was. BAD." */
    private static void letters() {
        Told x = new Told("22").tell("stone(5, 1, 0); stone(1, 1, 1); stone(5, 1, 0); line(2, 1, 1); take(1, 1, 0)");
        x.refused("letter(1)", -1).refused("letter(3)", -1).due("letter(2)", 1).refused("letter(2)", 0).due("letter(0)", 1);
        x.refused("letter(0)", 0).text(0, "1000", 1).due("months(1)", 1).refused("letter(2)", 0);
    }
}
