/** The sentences of part 1 of the Terms that name a bound: MONTHS, STONES, LINES, and what each may be (promises 1 to 5, 8). */
public final class BoundsOfStonesTest {
    private BoundsOfStonesTest() {
    }

    public static void main(String[] args) {
        nothingAtFirst();
        monthsEndAt599();
        months24AtMost();
        kinds();
        stonesAre64();
        results();
        rows();
        bars();
        landsAndCosts();
        hours();
        elseAny();
        eachHasAMonth();
        linesToEarlierOnes();
        linesOfAFirst();
        oneLineAtMost();
        weightsAndSenses();
        linesAre200();
        linesToAndFromTheLast();
        droppedLines();
        stillAsLongAs();
        whatOfAStone();
        whatOfALine();
        farAndHowMany();
        Check.end();
    }

    /** "No stones; NOW 0." */
    private static void nothingAtFirst() {
        Told x = new Told("1");
        for (int what = 0; what < 7; what++) {
            x.due("count(" + what + ")", 0);
        }
        x.refused("ofStone(0, 0)", -1).refused("ofLine(0, 0)", -1).refused("worth(0)", Told.VOID).refused("says(0)", -1);
        x.refused("undo()", Told.STATE).refused("redo()", Told.STATE).refused("trace(0)", -1);
        x.due("lacks(-1)", 0).due("lacks(-2)", 0).refused("lacks(0)", -1).due("seed(9)", 0);
        for (int place = 0; place < 6; place++) {
            x.refused("taken(" + place + ", 0)", Told.NOTHING).refused("element(" + place + ", 0)", Told.NO_VALUE);
        }
        for (int land = 0; land < 8; land++) {
            x.due("land(" + land + ")", 0);
        }
        x.due("hands(0, -1)", 0).due("hands(19, -1)", 0).due("fair(0)", 0).due("fair(19)", 0);
        x.due("tell(60, 0)", 0).due("tell(60, 1)", 0).due("tell(60, 2)", 0);
        x.due("months(1)", 0).due("count(3)", 1);
    }

    /** "MONTHS 0 .. 599 (NOW is 0 at first)"; "BAD (beyond 599)". */
    private static void monthsEndAt599() {
        Told x = new Told("18").due("count(3)", 0);
        for (int n = 1; n <= 24; n++) {
            x.due("months(24)", 0).due("count(3)", 24 * n);
        }
        x.refused("months(24)", -1).due("months(22)", 0).due("count(3)", 598);
        x.refused("months(2)", -1).refused("months(24)", -1).due("months(1)", 0).due("count(3)", 599);
        x.refused("months(1)", -1).refused("months(24)", -1).due("count(3)", 599);
        x.due("stone(1, 1, 1)", 0).due("ofStone(0, 1)", 599).due("take(0, 1, 0)", 599).due("ofStone(0, 4)", 599);
        x.due("copy(0, 1)", 0).due("mark(0, 1)", -1).due("mark(0, 0)", 599).due("restore(0)", 599);
        Told y = new Told("18").until(575);
        y.due("months(24)", 0).due("count(3)", 599);
    }

    /** "n (1 .. 24) MONTHS GO BY". */
    private static void months24AtMost() {
        Told x = new Told("18");
        x.refused("months(0)", -1).refused("months(-1)", -1).refused("months(25)", -1);
        x.refused("months(" + Told.GREATEST + ")", -1).refused("months(" + Told.LEAST + ")", -1);
        x.due("months(1)", 0).due("count(3)", 1).due("months(24)", 0).due("count(3)", 25);
        x.until(599).refused("months(" + Told.GREATEST + ")", -1).refused("months(0)", -1);
    }

    /** "(KINDS 0 to 5 are told ..)". */
    private static void kinds() {
        Told x = new Told("2");
        x.refused("stone(-1, 1, 1)", -1).refused("stone(6, 1, 1)", -1).refused("stone(7, 1, 1)", -1);
        x.refused("stone(" + Told.LEAST + ", 1, 1)", -1).refused("stone(" + Told.GREATEST + ", 1, 1)", -1);
        for (int kind = 0; kind < 6; kind++) {
            x.due("stone(" + kind + ", 1, 1)", kind).due("ofStone(" + kind + ", 0)", kind);
        }
        x.refused("stone(6, 1, 1)", -1).due("count(0)", 6);
    }

    /** "STONES 0 .. 63, as they come"; BAD ahead of FULL. */
    private static void stonesAre64() {
        Told x = new Told("2");
        for (int n = 0; n < 63; n++) {
            x.due("stone(" + n % 6 + ", 1, 1)", n);
        }
        x.refused("ofStone(63, 0)", -1).due("count(0)", 63).due("stone(5, 1, 1)", 63).due("ofStone(63, 0)", 5);
        for (int kind = 0; kind < 6; kind++) {
            x.refused("stone(" + kind + ", 1, 1)", Told.FULL);
        }
        x.refused("stone(6, 1, 1)", -1).refused("stone(1, 1000, 1)", -1).refused("stone(3, 0, 800)", -1);
        x.refused("stone(5, 0, 0)", -1).refused("ofStone(64, 0)", -1).due("count(0)", 64);
    }

    /** "A FIRST has a RESULT (-999 .. 999)". */
    private static void results() {
        Told x = new Told("2");
        x.refused("stone(1, -1000, 1)", -1).refused("stone(1, 1000, 1)", -1);
        x.refused("stone(1, " + Told.LEAST + ", 1)", -1).refused("stone(1, " + Told.GREATEST + ", 1)", -1);
        x.due("stone(1, -999, 1)", 0).due("worth(0)", -999000).due("stone(1, 999, 1)", 1).due("worth(1)", 999000);
        x.due("stone(1, 0, 1)", 2).due("worth(2)", 0).due("stone(1, -1, 1)", 3).due("worth(3)", -1000);
    }

    /** "and ROWS (1 .. 999)". */
    private static void rows() {
        Told x = new Told("2");
        x.refused("stone(1, 1, 0)", -1).refused("stone(1, 1, 1000)", -1).refused("stone(1, 1, -1)", -1);
        x.refused("stone(1, 1, " + Told.LEAST + ")", -1).refused("stone(1, 1, " + Told.GREATEST + ")", -1);
        x.due("stone(1, 1, 1)", 0).due("ofStone(0, 2)", 20).due("stone(1, 1, 999)", 1).due("ofStone(1, 2)", 19980);
    }

    /** "a RULED a BAR (-999 .. 999)". */
    private static void bars() {
        Told x = new Told("2");
        x.refused("stone(3, -1000, 0)", -1).refused("stone(3, 1000, 0)", -1);
        x.refused("stone(3, " + Told.LEAST + ", 0)", -1).refused("stone(3, " + Told.GREATEST + ", 0)", -1);
        x.due("stone(1, -999, 1)", 0).due("stone(1, 998, 1)", 1).due("stone(1, 999, 1)", 2);
        x.due("stone(3, -999, 0)", 3).due("line(3, 0, 50)", 0).due("says(3)", 1);
        x.due("stone(3, -998, 0)", 4).due("line(4, 0, 50)", 1).due("says(4)", 0);
        x.due("stone(3, 999, 0)", 5).due("line(5, 1, 50)", 2).due("says(5)", 0);
        x.due("stone(3, 999, 0)", 6).due("line(6, 2, 50)", 3).due("says(6)", 1);
    }

    /** "a LAND (0 .. 7) and a COST (0 .. 99) a month"; b is "100 LAND and COST". */
    private static void landsAndCosts() {
        Told x = new Told("2");
        x.refused("stone(3, 0, -1)", -1).refused("stone(3, 0, 800)", -1).refused("stone(3, 0, -100)", -1);
        x.refused("stone(3, 0, " + Told.LEAST + ")", -1).refused("stone(3, 0, " + Told.GREATEST + ")", -1);
        x.due("stone(1, 10, 1)", 0);
        int[] both = {0, 1, 99, 100, 199, 200, 700, 799};
        for (int n = 0; n < both.length; n++) {
            x.due("stone(3, 10, " + both[n] + ")", 1 + n).due("line(" + (1 + n) + ", 0, 99)", n);
        }
        x.tell("take(0, 0, 1); months(1)");
        int[] due = {100, 99, 0, 0, 0, 0, 0, 99};
        for (int land = 0; land < 8; land++) {
            x.due("land(" + land + ")", due[land]);
        }
    }

    /** "a HELD HOURS (1 .. 9)". */
    private static void hours() {
        Told x = new Told("2");
        x.refused("stone(5, 0, 0)", -1).refused("stone(5, 10, 0)", -1).refused("stone(5, -1, 0)", -1);
        x.refused("stone(5, " + Told.LEAST + ", 0)", -1).refused("stone(5, " + Told.GREATEST + ", 0)", -1);
        x.due("stone(5, 1, 0)", 0).due("stone(5, 9, 0)", 1);
        x.text(0, "h", 1).due("odds(0, 0)", 1).due("odds(1, 0)", 9);
    }

    /** "(else any)": neither a nor b of a STONE, a SUMMED, a SAID, nor b of a HELD has a bound. */
    private static void elseAny() {
        Told x = new Told("2");
        int[] any = {Told.LEAST, -1000, -1, 0, 800, 1000, Told.GREATEST};
        int stones = 0;
        for (int v : any) {
            for (int kind = 0; kind < 6; kind += 2) {
                x.due("stone(" + kind + ", " + v + ", " + v + ")", stones++);
            }
            x.due("stone(5, 9, " + v + ")", stones++);
        }
    }

    /** "Each has a MONTH (NOW, as it came)." */
    private static void eachHasAMonth() {
        Told x = new Told("5").due("stone(0, 0, 0)", 0).until(1).due("stone(0, 0, 0)", 1).until(598).due("stone(0, 0, 0)", 2);
        x.until(599).due("stone(0, 0, 0)", 3);
        int[] due = {0, 1, 598, 599};
        for (int s = 0; s < 4; s++) {
            x.due("ofStone(" + s + ", 1)", due[s]);
        }
    }

    /** "a STONE stands on an earlier one (by number)". */
    private static void linesToEarlierOnes() {
        Told x = new Told("3").plain(0, 3);
        x.refused("line(1, 1, 50)", -1).refused("line(1, 2, 50)", -1).refused("line(0, 0, 50)", -1).refused("line(0, 1, 50)", -1);
        x.refused("line(2, -1, 50)", -1).refused("line(2, 3, 50)", -1).refused("line(3, 0, 50)", -1).refused("line(-1, 0, 50)", -1);
        x.refused("line(3, 3, 50)", -1).refused("line(-1, -2, 50)", -1);
        x.refused("line(" + Told.GREATEST + ", 0, 50)", -1).refused("line(2, " + Told.LEAST + ", 50)", -1);
        x.due("line(1, 0, 50)", 0).due("line(2, 1, 50)", 1).due("line(2, 0, 50)", 2).due("count(1)", 3);
    }

    /** "of a FIRST none": it stands on nothing, but others stand on it. */
    private static void linesOfAFirst() {
        Told x = new Told("3").tell("stone(1, 1, 1); stone(1, 1, 1); stone(2, 0, 0); stone(1, 1, 1)");
        x.refused("line(1, 0, 50)", -1).refused("line(3, 2, 50)", -1).due("line(2, 1, 50)", 0).due("ofStone(1, 3)", 0);
    }

    /** "one STONE on another one by one LINE at most": other ones of either may come. */
    private static void oneLineAtMost() {
        Told x = new Told("3").plain(0, 4).due("line(2, 0, 50)", 0);
        x.refused("line(2, 0, 50)", -1).refused("line(2, 0, 1)", -1).refused("line(2, 0, 250)", -1);
        x.due("line(2, 1, 50)", 1).due("line(3, 0, 50)", 2).due("line(3, 2, 50)", 3).due("line(1, 0, 50)", 4);
        x.refused("line(2, 1, 50)", -1).refused("line(3, 2, 50)", -1).due("ofStone(2, 3)", 2).due("ofStone(3, 3)", 2);
    }

    /** "by a WEIGHT (1 .. 99) and a SENSE (0 for, 1 against, 2 unread)"; "100 times the SENSE, and the WEIGHT". */
    private static void weightsAndSenses() {
        Told x = new Told("3").plain(0, 8);
        int[] wrong = {Told.LEAST, -300, -199, -101, -100, -99, -1, 0, 100, 200, 300, 301, 399, 1001, Told.GREATEST};
        for (int v : wrong) {
            x.refused("line(7, 0, " + v + ")", -1);
        }
        int[] right = {1, 99, 101, 199, 201, 299};
        for (int n = 0; n < right.length; n++) {
            x.due("line(7, " + n + ", " + right[n] + ")", n);
            x.due("ofLine(" + n + ", 2)", right[n] % 100).due("ofLine(" + n + ", 3)", right[n] / 100);
        }
        x.due("ofStone(7, 3)", 6);
    }

    /** 22 STONES and as many LINES: 1 on 0, 2 on 0, 2 on 1, and so on. */
    private static Told manyLines(String promise, int many) {
        Told x = new Told(promise).plain(0, 22);
        int come = 0;
        for (int s = 1; s < 22; s++) {
            for (int on = 0; on < s && come < many; on++) {
                x.due("line(" + s + ", " + on + ", 50)", come++);
            }
        }
        return x;
    }

    /** "LINES 0 .. 199, as they come"; BAD ahead of FULL. */
    private static void linesAre200() {
        Told x = manyLines("3", 199).refused("ofLine(199, 0)", -1).refused("line(20, 8, 50)", -1).due("line(21, 20, 150)", 199);
        x.due("ofLine(199, 0)", 21).due("ofLine(199, 1)", 20).due("ofLine(199, 2)", 50).due("ofLine(199, 3)", 1);
        x.due("ofLine(0, 0)", 1).due("ofLine(0, 1)", 0).refused("ofLine(200, 0)", -1);
        x.refused("line(21, 19, 50)", Told.FULL).refused("line(21, 19, 299)", Told.FULL);
        x.refused("line(21, 20, 50)", -1).refused("line(21, 19, 100)", -1).refused("line(21, 21, 50)", -1);
        x.refused("line(22, 0, 50)", -1).due("count(1)", 200).due("change(199, 0, 99)", 50).due("ofLine(199, 2)", 99);
    }

    /** The last STONE stands on the first one and on the one ahead of it. */
    private static void linesToAndFromTheLast() {
        Told x = new Told("3").plain(0, 64).due("line(63, 62, 50)", 0).due("line(63, 0, 50)", 1);
        x.refused("line(63, 63, 50)", -1).refused("line(64, 63, 50)", -1).refused("line(63, 64, 50)", -1);
        x.due("ofStone(62, 8)", 1).due("ofStone(0, 8)", 1).due("ofStone(63, 8)", 0);
    }

    /** 0 a TAKEN FIRST, 1 a FIRST, 2 a HELD one on both that HEARD and DROPPED its LINE to 0, 3 a SAID on 2. */
    private static Told dropped(String promise) {
        Told x = new Told(promise).tell("stone(1, 10, 10); stone(1, 20, 10); stone(5, 4, 0); stone(4, 0, 0)");
        x.tell("line(2, 0, 90); line(2, 1, 150); line(3, 2, 50); copy(0, 7); take(0, 2, 0)");
        return x.text(0, "1000", 1).due("months(1)", 1).due("ofLine(0, 4)", 1).due("ofLine(1, 4)", 0);
    }

    /** "A DROPPED LINE leads no more: it stands nowhere but in ofStone(3), ofLine(), and line() is BAD for it still." */
    private static void droppedLines() {
        Told x = dropped("3").due("ofStone(2, 6)", 1).due("ofStone(2, 3)", 2);
        x.due("ofLine(0, 0)", 2).due("ofLine(0, 1)", 0).due("ofLine(0, 2)", 90).due("ofLine(0, 3)", 0);
        x.refused("line(2, 0, 90)", -1).refused("line(2, 0, 1)", -1).due("count(1)", 3);
        x.bytes(0, 0, 50, 0).due("citings(2, 0, 0, 1)", 0);
        x.due("ofStone(0, 7)", 0).due("ofStone(0, 8)", 0).due("ofStone(1, 7)", 2).due("ofStone(1, 8)", 2);
        x.due("ofStone(0, 2)", 100).due("worth(0)", 10000).due("ofStone(2, 2)", 100).due("worth(2)", -20000);
        x.due("with(0, 2, 2)", 100).due("with(0, 2, 0)", 100).due("falls(0, -1)", 1).due("ofStone(2, 2)", 100).due("worth(2)", -20000);
        x.due("span(0, 0)", 0).due("span(0, 1)", 0).due("span(1, 3)", 1).due("ofStone(2, 0)", 5);
        x.due("act(2, 0, 0)", 2).due("act(3, 0, 0)", 3);
        x.odds(2, "w", 50).odds(2, "s", 1).odds(2, "n", 1).odds(2, "m", 0).odds(2, "c", 0);
        x.due("take(0, 1, 0)", 1).due("ofStone(2, 0)", 5).due("months(1)", 0).due("line(3, 0, 50)", 3);
        x.due("ofStone(0, 8)", 1).due("span(0, 0)", 1);
    }

    /** "HELD .. STILL .. as long as it has not HEARD and stands, along LINES, on a STONE that is TAKEN". */
    private static void stillAsLongAs() {
        Told x = new Told("5").tell("stone(1, 1, 1); stone(4, 0, 0); stone(5, 1, 0); stone(4, 0, 0)").text(0, "0", 1);
        x.tell("line(1, 0, 50); line(3, 2, 50)").due("ofStone(2, 0)", 5).due("take(2, 1, 0)", 0).due("ofStone(2, 0)", 5);
        x.due("take(3, 1, 0)", 0).due("ofStone(2, 0)", 5).due("take(0, 0, 1)", 0).due("ofStone(2, 0)", 5);
        x.due("line(2, 1, 1)", 2).due("ofStone(2, 0)", 6).due("ofStone(3, 0)", 4).due("restore(0)", 0).due("ofStone(2, 0)", 5);
        x.due("take(1, 2, 0)", 0).due("ofStone(2, 0)", 6).due("months(1)", 0).due("ofStone(2, 0)", 6);
        x.text(0, "1000", 1).due("months(1)", 1).due("ofStone(2, 0)", 5).due("ofStone(2, 6)", 1);
        x.due("take(0, 1, 0)", 2).due("ofStone(2, 0)", 5).due("months(1)", 0);
    }

    /** "Of a STONE: 0 KIND, .. 8 how many STONES stand on it, along all. BAD." */
    private static void whatOfAStone() {
        Told x = new Told("5").due("stone(0, 0, 0)", 0);
        int[] due = {0, 0, 0, 0, -1, -1, 0, 0, 0};
        for (int what = 0; what < 9; what++) {
            x.due("ofStone(0, " + what + ")", due[what]);
            x.refused("ofStone(1, " + what + ")", -1).refused("ofStone(-1, " + what + ")", -1);
        }
        int[] wrong = {Told.LEAST, -2, -1, 9, 10, Told.GREATEST};
        for (int what : wrong) {
            x.refused("ofStone(0, " + what + ")", -1).refused("ofStone(" + what + ", 0)", -1);
        }
        x.refused("worth(1)", Told.VOID).refused("worth(-1)", Told.VOID).due("worth(0)", Told.VOID);
        x.refused("worth(" + Told.GREATEST + ")", Told.VOID).refused("worth(" + Told.LEAST + ")", Told.VOID);
    }

    /** "Of a LINE: 0 STONE, 1 on which, 2 WEIGHT, 3 SENSE, 4 whether it is DROPPED. BAD." */
    private static void whatOfALine() {
        Told x = new Told("8").plain(0, 3).due("line(2, 1, 299)", 0);
        int[] due = {2, 1, 99, 2, 0};
        for (int what = 0; what < 5; what++) {
            x.due("ofLine(0, " + what + ")", due[what]);
            x.refused("ofLine(1, " + what + ")", -1).refused("ofLine(-1, " + what + ")", -1);
        }
        int[] wrong = {Told.LEAST, -2, -1, 5, 6, Told.GREATEST};
        for (int what : wrong) {
            x.refused("ofLine(0, " + what + ")", -1).refused("ofLine(" + what + ", 0)", -1);
        }
    }

    /** "FAR: the most LINES on a way .. to it (0: nothing stands on it)"; the longest way there can be. */
    private static void farAndHowMany() {
        Told x = new Told("5").plain(0, 64);
        for (int s = 1; s < 64; s++) {
            x.due("line(" + s + ", " + (s - 1) + ", 1)", s - 1);
        }
        x.due("line(63, 0, 1)", 63).due("line(62, 0, 1)", 64);
        for (int s = 0; s < 64; s++) {
            x.due("ofStone(" + s + ", 7)", 63 - s).due("ofStone(" + s + ", 8)", 63 - s);
        }
        Told z = new Told("5").plain(0, 4).tell("line(1, 0, 1); line(3, 1, 1); line(3, 2, 1)").due("ofStone(0, 7)", 2).due("ofStone(2, 7)", 1);
        z.due("ofStone(1, 7)", 1).due("ofStone(3, 7)", 0).due("ofStone(0, 8)", 2).due("ofStone(2, 8)", 1);
        farWithoutDroppedLines();
        Told y = new Told("5").plain(0, 4).tell("line(3, 0, 1); line(3, 1, 1); line(2, 1, 1)");
        y.due("ofStone(0, 7)", 1).due("ofStone(0, 8)", 1).due("ofStone(1, 7)", 1).due("ofStone(1, 8)", 2);
        y.due("ofStone(2, 7)", 0).due("ofStone(2, 8)", 0).due("line(3, 2, 1)", 3).due("ofStone(1, 7)", 2).due("ofStone(1, 8)", 2);
    }

    /** A way by a DROPPED LINE is none, though that to which it leads stands on it still. */
    private static void farWithoutDroppedLines() {
        Told x = new Told("5").plain(4, 3).tell("stone(5, 1, 0); line(1, 0, 50); line(2, 1, 50); line(3, 2, 50); line(3, 0, 50); take(2, 1, 0)");
        x.text(0, "1000", 1).due("ofStone(0, 7)", 3).due("ofStone(1, 7)", 2).due("ofStone(1, 8)", 2).due("months(1)", 1);
        x.due("ofLine(2, 4)", 1).due("ofLine(3, 4)", 0).due("ofStone(0, 7)", 2).due("ofStone(1, 7)", 1).due("ofStone(1, 8)", 1);
        x.due("ofStone(0, 8)", 3).due("ofStone(2, 7)", 0);
    }
}
