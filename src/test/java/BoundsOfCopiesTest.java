/** The sentences of part 3 of the Terms on COPIES, LACKS, TELL and LAND that name a bound (promises 23 to 27). */
public final class BoundsOfCopiesTest {
    private BoundsOfCopiesTest() {
    }

    public static void main(String[] args) {
        copiesAre60();
        reachWithin();
        marksSinceAMonth();
        marksThatAreVoid();
        markIsAChangeOnlyIfAnother();
        lacksOfTakenOnes();
        lacksNoneSuch();
        tellWithin();
        tellHoursOrLess();
        tellTheMostStones();
        tellTheLeastHoursThenBits();
        tellTheFirstTen();
        tellOnlyStillOnes();
        landsWithin();
        landFromTheGreaterMonth();
        landAtTheMost();
        landIfItSaysAnother();
        landByAnyWay();
        Check.end();
    }

    /** "COPIES 0 .. 59, as they come"; BAD ahead of FULL. */
    private static void copiesAre60() {
        Told x = new Told("23").plain(0, 2);
        for (int n = 0; n < 59; n++) {
            x.due("copy(" + n % 2 + ", 5)", n).due("count(2)", n + 1);
        }
        x.refused("mark(59, 1)", Told.VOID).due("copy(1, 5)", 59).refused("copy(1, 5)", Told.FULL).refused("copy(0, 0)", Told.FULL);
        x.refused("copy(2, 5)", -1).refused("copy(0, 1000)", -1).refused("copy(0, -1)", -1).refused("mark(60, 1)", Told.VOID);
        x.due("count(2)", 60).due("mark(59, 1)", -1).due("mark(59, 0)", 0);
    }

    /** "with a REACH (0 .. 999)"; "BAD". */
    private static void reachWithin() {
        Told x = new Told("23").plain(0, 1);
        int[] wrong = {Told.LEAST, -1, 1000, Told.GREATEST};
        for (int r : wrong) {
            x.refused("copy(0, " + r + ")", -1);
        }
        int[] noStone = {Told.LEAST, -1, 1, Told.GREATEST};
        for (int s : noStone) {
            x.refused("copy(" + s + ", 5)", -1);
        }
        x.due("copy(0, 0)", 0).tell("take(0, 1, 0)").due("lacks(-2)", 0).due("copy(0, 999)", 1).due("lacks(-2)", 999);
        x.due("copy(0, 1)", 2).due("lacks(-2)", 1000).due("lacks(-1)", 3);
        for (int n = 3; n < 60; n++) {
            x.tell("copy(0, 999)");
        }
        x.due("lacks(-2)", 1000 + 57 * 999).due("lacks(-1)", 60);
    }

    /** "a MARK since a MONTH, or none": since NOW (1), from 0 to 599. */
    private static void marksSinceAMonth() {
        Told x = new Told("24").plain(0, 1).tell("copy(0, 1); copy(0, 1)");
        x.due("mark(0, 1)", -1).due("mark(0, 1)", 0).until(1).due("mark(0, 1)", 0).due("mark(0, 1)", 1).until(599);
        x.due("mark(0, 1)", 1).due("mark(0, 0)", 599).due("mark(0, 0)", -1).due("mark(1, 0)", -1).due("mark(1, 1)", -1);
        x.due("mark(1, 0)", 599);
    }

    /** "VOID: BAD." */
    private static void marksThatAreVoid() {
        Told x = new Told("24").plain(0, 1).tell("copy(0, 1); copy(0, 1); mark(0, 1); mark(1, 1); undo()");
        int[][] wrong = {{2, 0}, {2, 1}, {-1, 0}, {-1, 1}, {0, -1}, {0, 2}, {1, 2}, {Told.LEAST, 1}, {Told.GREATEST, 1},
            {0, Told.LEAST}, {1, Told.GREATEST}};
        for (int[] w : wrong) {
            x.refused("mark(" + w[0] + ", " + w[1] + ")", Told.VOID);
        }
        x.due("redo()", 0).due("mark(1, 0)", 0).due("count(5)", 3);
    }

    /** "(A CHANGE, if it becomes another one: since NOW, or none.)" */
    private static void markIsAChangeOnlyIfAnother() {
        Told x = new Told("24").plain(0, 1).tell("copy(0, 1)").refused("mark(0, 0)", -1).due("count(5)", 0);
        x.due("mark(0, 1)", -1).due("count(5)", 1).refused("mark(0, 1)", 0).due("count(5)", 1).until(1);
        x.due("mark(0, 1)", 0).due("count(5)", 2).refused("mark(0, 1)", 1).due("mark(0, 0)", 1).due("count(5)", 3);
        x.refused("mark(0, 0)", -1).due("undo()", 2).refused("mark(0, 1)", 1).due("redo()", 0).due("undo()", 2).due("undo()", 1);
        x.due("mark(0, 1)", 0).due("count(5)", 2).refused("redo()", Told.STATE).due("undo()", 1).due("undo()", 0);
        x.refused("mark(0, 0)", -1).due("redo()", 1).due("redo()", 0);
    }

    /** "LACKS: COPIES of TAKEN STONES without a MARK: how many, the i-th; REACH of all of them". */
    private static void lacksOfTakenOnes() {
        Told x = new Told("25").plain(0, 2).tell("copy(0, 1); copy(1, 10); copy(0, 100); copy(1, 200)").due("lacks(-1)", 0).due("lacks(-2)", 0);
        for (int way = 0; way < 3; way++) {
            x.tell("take(1, " + way + ", 1)").due("lacks(-1)", 2).due("lacks(0)", 1).due("lacks(1)", 3).due("lacks(-2)", 210);
        }
        x.tell("mark(1, 1)").due("lacks(-1)", 1).due("lacks(0)", 3).due("lacks(-2)", 200).tell("take(0, 1, 0)").due("lacks(-1)", 3);
        x.due("lacks(0)", 0).due("lacks(1)", 2).due("lacks(2)", 3).due("lacks(-2)", 301).tell("restore(1)").due("lacks(-1)", 2);
        x.tell("undo(); restore(0)").due("lacks(-1)", 0).due("lacks(-2)", 0);
    }

    /** "how many (i -1), the i-th, the REACH (-2). BAD (also none such)." */
    private static void lacksNoneSuch() {
        Told x = new Told("25").plain(0, 1).tell("copy(0, 5); take(0, 1, 0)");
        x.refused("lacks(1)", -1).refused("lacks(-3)", -1).refused("lacks(" + Told.LEAST + ")", -1);
        x.refused("lacks(" + Told.GREATEST + ")", -1).refused("lacks(60)", -1).refused("lacks(64)", -1).due("lacks(0)", 0);
        for (int n = 1; n < 60; n++) {
            x.tell("copy(0, 5)").due("lacks(" + n + ")", n);
        }
        x.refused("lacks(60)", -1).due("lacks(-1)", 60).due("lacks(59)", 59).due("lacks(-2)", 300);
    }

    /** FIRST 0, TAKEN; on it HELD ones with these HOURS. */
    private static Told heads(int... hours) {
        Told x = new Told("26").tell("stone(1, 1, 1); take(0, 1, 0)");
        for (int n = 0; n < hours.length; n++) {
            x.tell("stone(5, " + hours[n] + ", 0); line(" + (n + 1) + ", 0, 50)");
        }
        return x;
    }

    private static Told told(Told x, int h, int many, int hours, int set) {
        return x.due("tell(" + h + ", 0)", many).due("tell(" + h + ", 1)", hours).due("tell(" + h + ", 2)", set);
    }

    /** "TELL with h HOURS (0 .. 60)"; what 0 .. 2. */
    private static void tellWithin() {
        Told x = heads(9, 9, 9, 9, 9, 9, 6, 1);
        int[] wrong = {Told.LEAST, -1, 61, Told.GREATEST};
        for (int h : wrong) {
            x.refused("tell(" + h + ", 0)", -1).refused("tell(" + h + ", 1)", -1).refused("tell(" + h + ", 2)", -1);
        }
        int[] whats = {Told.LEAST, -1, 3, Told.GREATEST};
        for (int what : whats) {
            x.refused("tell(0, " + what + ")", -1).refused("tell(60, " + what + ")", -1);
        }
        told(x, 0, 0, 0, 0);
        told(x, 60, 7, 52, 1 + 2 + 4 + 8 + 16 + 64 + 128);
    }

    /** "a set whose HOURS are h or less". */
    private static void tellHoursOrLess() {
        Told x = heads(9, 9, 9, 9, 9, 9, 6);
        told(x, 60, 7, 60, 127);
        told(x, 59, 6, 51, 64 + 31);
        told(x, 6, 1, 6, 64);
        told(x, 5, 0, 0, 0);
        told(x, 15, 2, 15, 65);
        told(x, 14, 1, 6, 64);
        told(heads(1), 1, 1, 1, 1);
        told(heads(1), 0, 0, 0, 0);
        told(heads(9), 9, 1, 9, 1);
        told(heads(9), 8, 0, 0, 0);
    }

    /** "so that most STONES stand on one of them (along all; it, too)": each of these once. */
    private static void tellTheMostStones() {
        Told x = heads(5, 5, 5).plain(4, 4);
        x.tell("line(4, 1, 50); line(5, 4, 50); line(6, 2, 50); line(6, 1, 50); line(7, 3, 50)");
        // 1: 1 4 5 6; 2: 2 6; 3: 3 7
        told(x, 4, 0, 0, 0);
        told(x, 5, 4, 5, 1);
        told(x, 9, 4, 5, 1);
        told(x, 10, 6, 10, 5);
        told(x, 15, 7, 15, 7);
        Told y = heads(5).plain(4, 62);
        for (int n = 2; n < 64; n++) {
            y.tell("line(" + n + ", 1, 50)");
        }
        told(y, 5, 63, 5, 1);
    }

    /** "of like ones the least HOURS, then the least as bits (of places among these)". */
    private static void tellTheLeastHoursThenBits() {
        told(heads(3, 2, 3), 3, 1, 2, 2);
        told(heads(2, 2, 2), 3, 1, 2, 1);
        told(heads(2, 2, 2), 4, 2, 4, 3);
        told(heads(3, 2, 2), 5, 2, 4, 6);
        Told x = heads(1, 2, 2, 3).plain(4, 4).tell("line(5, 2, 50); line(6, 3, 50); line(7, 4, 50); line(8, 4, 50)");
        // 1: 1; 2: 2 5; 3: 3 6; 4: 4 7 8: in 4 HOURS 1 and 4 (9), or 2 and 3 (6)
        told(x, 4, 4, 4, 6);
        told(x, 3, 3, 3, 3);
        Told y = heads(1, 1).tell("line(2, 1, 50)");
        told(y, 1, 2, 1, 1);
        told(y, 2, 2, 1, 1);
    }

    /** "of the first 10 HELD ones that are STILL": the eleventh comes in when one of these is not STILL any more. */
    private static void tellTheFirstTen() {
        told(heads(1, 1, 1, 1, 1, 1, 1, 1, 1, 1), 60, 10, 10, 1023);
        told(heads(1, 1, 1, 1, 1, 1, 1, 1, 1, 1, 1), 60, 10, 10, 1023);
        told(heads(1, 1, 1, 1, 1, 1, 1, 1, 1), 60, 9, 9, 511);
        told(heads(2, 2, 2, 2, 2, 2, 2, 2, 2, 1), 1, 1, 1, 512);
        told(heads(2, 2, 2, 2, 2, 2, 2, 2, 2, 2, 1), 1, 0, 0, 0);
        Told x = heads(2, 2, 2, 2, 2, 2, 2, 2, 2, 2, 1).text(0, "w=99?1000;0", 1).tell("change(3, 0, 99)").due("months(1)", 1);
        told(x, 1, 1, 1, 512);
        told(x, 60, 10, 19, 1023);
    }

    /** HELD ones that are not STILL are not among them, and what is no HELD one neither; places are those of STILL ones. */
    private static void tellOnlyStillOnes() {
        Told x = new Told("26").tell("stone(1, 1, 1); stone(1, 1, 1); stone(5, 1, 0); stone(4, 0, 0); stone(5, 1, 0)");
        x.tell("line(2, 0, 50); line(3, 1, 50); line(4, 3, 50)");
        told(x, 60, 0, 0, 0);
        told(x.tell("take(1, 1, 0)"), 60, 1, 1, 1);
        told(x.tell("take(0, 1, 0)"), 60, 2, 2, 3);
        told(x.tell("restore(1)"), 60, 1, 1, 1);
    }

    /** "LAND: the cost. BAD": a LAND 0 .. 7. */
    private static void landsWithin() {
        Told x = new Told("27").tell("stone(1, 10, 1); stone(3, 10, 1); stone(3, 10, 701); line(1, 0, 99); line(2, 0, 99); take(0, 0, 1)");
        x.tell("months(3)");
        int[] wrong = {Told.LEAST, -1, 8, Told.GREATEST};
        for (int land : wrong) {
            x.refused("land(" + land + ")", -1);
        }
        x.due("land(0)", 3).due("land(7)", 3).due("land(1)", 0).due("land(6)", 0);
    }

    /** "the MONTHS from the greater one of its own and that of the first MONTH in which a STONE .. was TAKEN, to NOW". */
    private static void landFromTheGreaterMonth() {
        Told x = new Told("27").tell("stone(1, 10, 1); stone(4, 0, 0); line(1, 0, 99)").until(3).tell("stone(3, 10, 1); line(2, 1, 99)");
        x.until(5).tell("take(0, 0, 1)").due("land(0)", 0).until(6).due("land(0)", 1).tell("stone(3, 10, 101); line(3, 1, 99)");
        x.due("land(1)", 0).until(7).due("land(0)", 2).due("land(1)", 1).tell("take(1, 0, 1)").due("land(0)", 2).until(8);
        x.due("land(0)", 3).tell("take(0, 0, 1)").due("land(0)", 1).due("land(1)", 1).tell("restore(1)").due("land(0)", 0);
        Told y = new Told("27").tell("stone(1, 10, 1); take(0, 0, 1)").until(4).tell("stone(3, 10, 1); line(1, 0, 99)").due("land(0)", 0);
        y.until(5).due("land(0)", 1).tell("take(1, 0, 1)").due("land(0)", 1);
    }

    /** The greatest cost: 599 MONTHS times 99, of 63 rules. */
    private static void landAtTheMost() {
        Told x = new Told("27").tell("stone(1, 10, 1)");
        for (int s = 1; s < 64; s++) {
            x.tell("stone(3, 10, " + (s < 63 ? 799 : 700) + "); line(" + s + ", 0, 99)");
        }
        x.tell("take(0, 2, 0)").due("land(7)", 0).until(1).due("land(7)", 62 * 99).until(599).due("land(7)", 62 * 99 * 599);
    }

    /** "if its SAYS is another one than it would be, were all FIRSTS that are TAKEN .. LIES, in thought". */
    private static void landIfItSaysAnother() {
        Told x = new Told("27").tell("stone(1, 10, 1); stone(1, 20, 1); stone(3, 10, 1); stone(3, 15, 101); stone(3, 16, 201); stone(3, 10, 301)");
        for (int s = 2; s < 5; s++) {
            x.tell("line(" + s + ", 0, 50); line(" + s + ", 1, 50)");
        }
        x.tell("line(5, 1, 50); take(0, 0, 1)").until(2);
        // WORTH 15 and more now, 20 were 0 a LIE
        x.due("says(4)", 0).due("land(0)", 0).due("land(1)", 0).due("land(2)", 2).due("land(3)", 0);
        x.tell("restore(0); take(1, 0, 1)").until(4).due("land(0)", 0).due("land(1)", 0).due("land(2)", 0).due("land(3)", 2);
        x.tell("take(5, 1, 0)").due("land(3)", 0).tell("restore(5); take(0, 2, 0)").due("land(0)", 2).tell("take(2, 0, 9)").due("land(0)", 2);
        x.tell("take(2, 1, 0)").due("land(0)", 0);
    }

    /** "(by any WAY)"; "(none of those on which it stands TAKEN: no cost)". */
    private static void landByAnyWay() {
        for (int way = 0; way < 3; way++) {
            Told x = new Told("27").tell("stone(1, 10, 5); stone(1, 10, 5); stone(3, 10, 5); line(2, 0, 50); take(0, " + way + ", 5); months(2)");
            x.due("says(2)", way == 1 ? 0 : 1).due("land(0)", way == 1 ? 0 : 10).tell("restore(0); take(1, 2, 0); months(1)");
            x.due("land(0)", 0).tell("take(2, 0, 1); months(1)").due("land(0)", 0);
        }
        Told y = new Told("27").tell("stone(1, 10, 5); stone(4, 0, 0); stone(3, 10, 5); line(1, 0, 50); line(2, 1, 50); take(1, 2, 0)");
        y.tell("months(2)").due("land(0)", 0).tell("take(0, 2, 0)").due("land(0)", 10).tell("months(1)").due("land(0)", 15);
    }
}
