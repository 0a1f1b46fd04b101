/** The sentences of part 5 of the Terms that name a bound: ACTS, THE TRACE, PLACES, CITINGS (promises 4, 35 to 43). */
public final class BoundsOfPlacesTest {
    private BoundsOfPlacesTest() {
    }

    public static void main(String[] args) {
        actsZeroToThree();
        noSuchStoneOrAct();
        actsThatWrap();
        linesThatAnActCounts();
        traceOfTheLatest();
        traceNeverFull();
        placesSix();
        keptStones();
        rowSortsAndSizes();
        rowsAreZeroAtFirst();
        lowestBits();
        elementsWithin();
        elementThatIsTheLeast();
        shiftsWithin();
        shiftsOfOneRow();
        shiftsRefused();
        takenWithin();
        citingsOneToTwenty();
        citingsOfAMissingRow();
        citingsFromBelowZeroAndBehind();
        citingsEndWithin();
        citingsThatAreNoLines();
        citingsThatLackOrAreNotSo();
        citingsWithoutRoom();
        countsWithin();
        Check.end();
    }

    /** One of each KIND by its number, and 6 STILL: it stands on 1, which is TAKEN. */
    private static Told ofAllKinds(String promise) {
        Told x = new Told(promise);
        for (int kind = 0; kind < 6; kind++) {
            x.tell("stone(" + kind + ", 1, 1)");
        }
        return x.tell("stone(5, 1, 1); line(2, 1, 10); line(3, 2, 10); line(3, 1, 10); line(6, 1, 10); take(1, 1, 0)");
    }

    /** "An ACT (0 .. 3) of a STONE with x": each of them of each KIND, x 0. */
    private static void actsZeroToThree() {
        Told x = ofAllKinds("35");
        int[][] due = {{0, 0, 0}, {1, 5, 1}, {3, 6, 2}, {5, 10, 9}, {4, -8, 4}, {5, -10, -2}, {7, -14, -6}};
        for (int s = 0; s < 7; s++) {
            for (int act = 0; act < 4; act++) {
                x.due("act(" + s + ", " + act + ", 0)", act == 3 ? tells(s) : due[s][act]);
            }
        }
    }

    /** falls(0) - hears(1) by hand, for each KIND. */
    private static int tells(int kind) {
        int[] falls = {0, 5, 6, 10, -8, -10, -14};
        int stands2 = 2 + 5, still2 = 3 + 6;
        int[] hears = {1, 0, 3, 6, 5, 4 - stands2, (7 - still2) * 2};
        int tells = falls[kind] - hears[kind];
        return kind == 3 ? tells ^ 5 : tells;
    }

    /** "0, and no TRACE then: no such STONE, ACT." */
    private static void noSuchStoneOrAct() {
        int[][] wrong = {{7, 0}, {-1, 0}, {6, 4}, {6, -1}, {7, 4}, {Told.LEAST, 0}, {Told.GREATEST, 0}, {6, Told.LEAST}, {6, Told.GREATEST}};
        Told x = ofAllKinds("35");
        for (int[] w : wrong) {
            x.tell("act(6, 3, 0)").due("count(6)", 10).due("trace(0)", 2).due("trace(9)", 1).due("act(" + w[0] + ", " + w[1] + ", 5)", 0);
            x.due("count(6)", 0).refused("trace(0)", -1);
        }
        Told y = new Told("35").due("act(0, 0, 7)", 0).due("count(6)", 0).plain(0, 1).due("act(0, 0, 7)", 7).due("act(1, 0, 7)", 0);
        y.due("count(6)", 0).refused("trace(0)", -1);
    }

    /** "with x (an int that wraps)". */
    private static void actsThatWrap() {
        Told x = ofAllKinds("35");
        x.due("act(0, 0, " + Told.GREATEST + ")", Told.GREATEST).due("act(1, 0, " + Told.GREATEST + ")", Told.LEAST);
        x.due("act(2, 0, " + Told.GREATEST + ")", Told.LEAST + 2).due("act(6, 0, " + Told.GREATEST + ")", Told.LEAST + 6);
        x.due("act(0, 1, " + Told.LEAST + ")", 0).due("act(0, 1, 1073741824)", Told.LEAST).due("act(0, 1, 1073741823)", 2147483646);
        x.due("act(4, 1, 1073741820)", Told.LEAST).due("act(1, 1, " + Told.GREATEST + ")", 3).due("act(3, 2, 1073741824)", -1073741824 + 9);
        x.due("act(0, 2, " + Told.LEAST + ")", Told.LEAST).due("act(1, 2, " + Told.GREATEST + ")", 2147483646).due("act(1, 2, -1)", -2);
        x.due("act(0, 3, " + Told.LEAST + ")", -1).due("act(3, 3, " + Told.LEAST + ")", 4 ^ 5).due("act(6, 2, " + Told.GREATEST + ")", -32);
    }

    /** "c how many LINES it has": of a SUMMED and a RULED, from none up. */
    private static void linesThatAnActCounts() {
        Told x = new Told("35").plain(0, 62).tell("stone(2, 0, 0); stone(3, 0, 0)").due("act(62, 0, 0)", 62).due("act(63, 0, 0)", 63);
        for (int n = 0; n < 62; n++) {
            x.tell("line(62, " + n + ", 1); line(63, " + n + ", 1)");
        }
        x.due("act(62, 0, 0)", 124).due("act(63, 0, 0)", 125).tell("line(63, 62, 1)").due("act(63, 0, 0)", 126);
    }

    /** "numbers of the bodies that ran in the latest act(), as they began"; "BAD". */
    private static void traceOfTheLatest() {
        Told x = ofAllKinds("36").refused("trace(0)", -1).tell("act(6, 3, 5)");
        int[] due = {2, 50, 10, 70, 1, 71, 60, 11, 70, 1};
        for (int i = 0; i < due.length; i++) {
            x.due("trace(" + i + ")", due[i]);
        }
        for (int i : new int[] {Told.LEAST, -2, -1, 10, 11, 23, 24, 25, Told.GREATEST}) {
            x.refused("trace(" + i + ")", -1);
        }
        x.due("count(6)", 10).tell("act(0, 0, 5)").due("count(6)", 1).due("trace(0)", 1).refused("trace(1)", -1).refused("trace(-1)", -1);
        x.tell("act(3, 3, 5)").due("count(6)", 7).due("trace(0)", 41).due("trace(6)", 11).refused("trace(7)", -1);
    }

    /** "the first 24 are kept": no act of any KIND has more than ten, so all are kept. */
    private static void traceNeverFull() {
        Told x = ofAllKinds("43");
        int[][] due = {{1, 2, 1, 4}, {1, 3, 1, 5}, {2, 3, 1, 5}, {2, 3, 2, 7}, {1, 3, 1, 5}, {1, 3, 3, 7}, {2, 4, 5, 10}};
        for (int s = 0; s < 7; s++) {
            for (int act = 0; act < 4; act++) {
                x.tell("act(" + s + ", " + act + ", 5)").due("count(6)", due[s][act]).refused("trace(" + due[s][act] + ")", -1);
                Check.due("36: all of these are kept", x.ask("trace(" + (due[s][act] - 1) + ")") > 0 ? 1 : 0, 1);
            }
        }
    }

    /** "PLACES 0 .. 5 each hold nothing (at first)". */
    private static void placesSix() {
        Told x = new Told("37").plain(0, 1);
        for (int p : new int[] {Told.LEAST, -1, 6, Told.GREATEST}) {
            x.refused("keep(" + p + ", 0)", -1).refused("keep(" + p + ", -1)", -1).refused("row(" + p + ", 0, 1)", -1);
            x.refused("put(" + p + ", 0, 1)", -1).refused("element(" + p + ", 0)", Told.NO_VALUE).refused("taken(" + p + ", 0)", -1);
            x.refused("shift(" + p + ", 0, 0, 0, 0)", -1).refused("shift(0, 0, " + p + ", 0, 0)", -1).refused("citings(0, " + p + ", 0, 1)", -1);
        }
        for (int p = 0; p < 6; p++) {
            x.refused("put(" + p + ", 0, 1)", Told.NOTHING).refused("element(" + p + ", 0)", Told.NO_VALUE);
            x.refused("taken(" + p + ", 0)", Told.NOTHING).refused("shift(" + p + ", 0, " + p + ", 0, 0)", Told.NOTHING);
        }
        for (int p = 0; p < 6; p++) {
            x.due("row(" + p + ", 3, 1)", 1).due("put(" + p + ", 0, " + (p + 7) + ")", 1);
        }
        for (int p = 0; p < 6; p++) {
            x.due("element(" + p + ", 0)", p + 7).due("keep(" + p + ", 0)", 1).due("taken(" + p + ", 0)", 0).due("keep(" + p + ", -1)", 1);
            x.refused("taken(" + p + ", 0)", Told.NOTHING).due("keep(" + p + ", -1)", 1);
        }
    }

    /** "A PLACE holds nothing (stone -1), or a STONE: 1. BAD." */
    private static void keptStones() {
        Told x = ofAllKinds("37").tell("row(0, 2, 3); put(0, 2, 9); keep(1, 3)");
        for (int s : new int[] {Told.LEAST, -2, 7, 64, Told.GREATEST}) {
            x.refused("keep(0, " + s + ")", -1).refused("keep(1, " + s + ")", -1).refused("keep(2, " + s + ")", -1);
        }
        x.due("element(0, 2)", 9).due("taken(1, 3)", 3).due("keep(0, 0)", 1).due("taken(0, 0)", 0).due("keep(0, 6)", 1).due("taken(0, 5)", 6);
        x.due("keep(0, -1)", 1).refused("taken(0, 0)", Told.NOTHING).refused("put(0, 0, 1)", Told.NOTHING);
        Told y = new Told("37").plain(4, 63).refused("keep(0, 63)", -1).plain(4, 1).due("keep(0, 63)", 1).due("taken(0, 4)", 4);
    }

    /** "A PLACE holds a ROW: 1. BAD (sort, n above 60); -14": sorts 0 .. 4, of 0 .. 60 elements. */
    private static void rowSortsAndSizes() {
        Told x = new Told("38").tell("row(0, 3, 2); put(0, 1, 7)");
        for (int sort : new int[] {Told.LEAST, -1, 5, 6, Told.GREATEST}) {
            x.refused("row(0, " + sort + ", 1)", -1).refused("row(0, " + sort + ", -1)", -1).refused("row(0, " + sort + ", 61)", -1);
        }
        for (int sort = 0; sort < 5; sort++) {
            for (int n : new int[] {61, 62, Told.GREATEST}) {
                x.refused("row(0, " + sort + ", " + n + ")", -1);
            }
            x.refused("row(0, " + sort + ", -1)", Told.BELOW_ZERO).refused("row(0, " + sort + ", " + Told.LEAST + ")", Told.BELOW_ZERO);
        }
        x.due("element(0, 1)", 7).refused("row(6, 0, -1)", -1).refused("row(-1, 0, -1)", -1);
        for (int sort = 0; sort < 5; sort++) {
            x.due("row(" + sort + ", " + sort + ", 60)", 1).due("put(" + sort + ", 59, 1)", 1).due("element(" + sort + ", 59)", 1);
            x.refused("put(" + sort + ", 60, 1)", Told.NO_ELEMENT).due("row(" + sort + ", " + sort + ", 0)", 1);
            x.refused("put(" + sort + ", 0, 1)", Told.NO_ELEMENT).refused("element(" + sort + ", 0)", Told.NO_VALUE);
            x.due("row(" + sort + ", " + sort + ", 1)", 1).due("put(" + sort + ", 0, 1)", 1).refused("put(" + sort + ", 1, 1)", Told.NO_ELEMENT);
        }
    }

    /** "0 at first (false)": a ROW made anew, too, a smaller or a greater one. */
    private static void rowsAreZeroAtFirst() {
        Told x = new Told("38").due("row(5, 3, 60)", 1);
        for (int i = 0; i < 60; i++) {
            x.due("element(5, " + i + ")", 0).due("put(5, " + i + ", -1)", 1);
        }
        x.due("row(5, 3, 60)", 1);
        for (int i = 0; i < 60; i++) {
            x.due("element(5, " + i + ")", 0).due("put(5, " + i + ", 1)", 1);
        }
        x.due("row(5, 4, 30)", 1).due("element(5, 0)", 0).due("element(5, 29)", 0).refused("element(5, 30)", Told.NO_VALUE);
        x.due("put(5, 29, 1)", 1).due("keep(5, -1)", 1).due("row(5, 0, 60)", 1).due("element(5, 29)", 0).due("element(5, 59)", 0);
    }

    /** "what is put in keeps its lowest bits (a boolean: whether it is not 0; 1 or 0)". */
    private static void lowestBits() {
        long[] put = {0, 1, -1, 127, 128, -128, -129, 255, 256, 32767, 32768, -32768, -32769, 65535, 65536, 2147483647L, 2147483648L,
            -2147483648L, -2147483649L, 4294967295L, 4294967296L, Long.MAX_VALUE, Long.MIN_VALUE + 1, 1L << 63};
        long[][] due = {
            {0, 1, -1, 127, -128, -128, 127, -1, 0, -1, 0, 0, -1, -1, 0, -1, 0, 0, -1, -1, 0, -1, 1, 0},
            {0, 1, -1, 127, 128, -128, -129, 255, 256, 32767, -32768, -32768, 32767, -1, 0, -1, 0, 0, -1, -1, 0, -1, 1, 0},
            {0, 1, -1, 127, 128, -128, -129, 255, 256, 32767, 32768, -32768, -32769, 65535, 65536, 2147483647, -2147483648,
                -2147483648, 2147483647, -1, 0, -1, 1, 0}, put,
            {0, 1, 1, 1, 1, 1, 1, 1, 1, 1, 1, 1, 1, 1, 1, 1, 1, 1, 1, 1, 1, 1, 1, 1}};
        Told x = new Told("39");
        for (int sort = 0; sort < 5; sort++) {
            x.due("row(" + sort + ", " + sort + ", " + put.length + ")", 1);
            for (int i = 0; i < put.length; i++) {
                x.due("put(" + sort + ", " + i + ", " + put[i] + ")", 1).due("element(" + sort + ", " + i + ")", due[sort][i]);
            }
        }
        x.due("put(4, 3, 0)", 1).due("element(4, 3)", 0);
    }

    /** "Element i of a ROW .. BAD, -11, -12, -13": each ahead of the next. */
    private static void elementsWithin() {
        Told x = ofAllKinds("39").tell("row(0, 2, 3); row(1, 2, 0); keep(2, 6); put(0, 0, 5); put(0, 1, 6); put(0, 2, 7)");
        for (int i : new int[] {Told.LEAST, -1, 3, 4, 59, 60, Told.GREATEST}) {
            x.refused("put(0, " + i + ", 9)", Told.NO_ELEMENT).refused("element(0, " + i + ")", Told.NO_VALUE);
            x.refused("put(1, " + i + ", 9)", Told.NO_ELEMENT).refused("element(1, " + i + ")", Told.NO_VALUE);
            x.refused("put(2, " + i + ", 9)", Told.OTHER_KIND).refused("element(2, " + i + ")", Told.NO_VALUE);
            x.refused("put(3, " + i + ", 9)", Told.NOTHING).refused("element(3, " + i + ")", Told.NO_VALUE);
            x.refused("put(6, " + i + ", 9)", Told.BAD).refused("element(6, " + i + ")", Told.NO_VALUE);
        }
        x.due("element(0, 0)", 5).due("element(0, 1)", 6).due("element(0, 2)", 7).due("put(0, 2, 8)", 1).due("element(0, 2)", 8);
    }

    /** "Long.MIN_VALUE: BAD, -11 to -13": an element may be it, too. */
    private static void elementThatIsTheLeast() {
        Told x = new Told("40").tell("row(0, 3, 2)").due("put(0, 0, " + Told.NO_VALUE + ")", 1).due("element(0, 0)", Told.NO_VALUE);
        x.due("element(0, 1)", 0).due("put(0, 0, -13)", 1).due("element(0, 0)", -13).due("put(0, 0, -1)", 1).due("element(0, 0)", -1);
    }

    /** "n elements of a ROW from i on come to another one (or the same) from j on .. -13 (n below 0, too)". */
    private static void shiftsWithin() {
        Told x = new Told("41").tell("row(0, 1, 5); row(1, 1, 3); row(2, 1, 0)");
        for (int i = 0; i < 5; i++) {
            x.tell("put(0, " + i + ", " + (i + 1) + ")");
        }
        int[][] wrong = {{0, 0, 1, 0, -1}, {0, 0, 1, 0, Told.LEAST}, {0, 0, 1, 0, 4}, {0, 0, 1, 1, 3}, {0, 3, 1, 0, 3}, {0, 5, 1, 0, 1},
            {0, 6, 1, 0, 0}, {0, 0, 1, 4, 0}, {0, -1, 1, 0, 1}, {0, 0, 1, -1, 1}, {0, -1, 1, 0, 0}, {0, 0, 1, -1, 0}, {0, 0, 1, 3, 1},
            {0, Told.GREATEST, 1, 0, 1}, {0, 0, 1, Told.GREATEST, 1}, {0, 1, 1, 0, Told.GREATEST}, {0, Told.GREATEST, 1, 0, Told.GREATEST},
            {0, Told.LEAST, 1, 0, 1}, {0, 0, 1, Told.LEAST, 1}, {2, 0, 0, 0, 1}, {0, 0, 2, 0, 1}, {2, 1, 0, 0, 0}, {0, 0, 2, 1, 0}};
        for (int[] w : wrong) {
            x.refused("shift(" + w[0] + ", " + w[1] + ", " + w[2] + ", " + w[3] + ", " + w[4] + ")", Told.NO_ELEMENT);
        }
        x.due("shift(0, 5, 1, 3, 0)", 0).due("shift(2, 0, 2, 0, 0)", 0).due("shift(0, 0, 2, 0, 0)", 0);
        elements(x, 1, 0, 0, 0);
        elements(x.due("shift(0, 4, 1, 2, 1)", 1), 1, 0, 0, 5);
        elements(x.due("shift(0, 2, 1, 0, 3)", 3), 1, 3, 4, 5);
        elements(x.due("shift(1, 0, 0, 2, 3)", 3), 0, 1, 2, 3, 4, 5);
        elements(x.due("shift(1, 1, 0, 0, 1)", 1), 0, 4, 2, 3, 4, 5);
        x.tell("row(3, 3, 60); row(4, 3, 60); put(3, 0, 7); put(3, 59, 8)").refused("shift(3, 0, 4, 0, 61)", Told.NO_ELEMENT);
        x.refused("shift(3, 1, 4, 0, 60)", Told.NO_ELEMENT).due("shift(3, 0, 4, 0, 60)", 60).due("element(4, 0)", 7).due("element(4, 59)", 8);
    }

    private static void elements(Told x, int place, int... due) {
        for (int i = 0; i < due.length; i++) {
            x.due("element(" + place + ", " + i + ")", due[i]);
        }
        x.refused("element(" + place + ", " + due.length + ")", Told.NO_VALUE);
    }

    /** "(or the same) .., as they all were before". */
    private static void shiftsOfOneRow() {
        for (int sort = 0; sort < 4; sort++) {
            Told x = new Told("41").tell("row(0, " + sort + ", 6)");
            for (int i = 0; i < 6; i++) {
                x.tell("put(0, " + i + ", " + (i + 1) + ")");
            }
            elements(x.due("shift(0, 0, 0, 1, 5)", 5), 0, 1, 1, 2, 3, 4, 5);
            elements(x.due("shift(0, 1, 0, 0, 5)", 5), 0, 1, 2, 3, 4, 5, 5);
            elements(x.due("shift(0, 0, 0, 0, 6)", 6), 0, 1, 2, 3, 4, 5, 5);
            elements(x.due("shift(0, 0, 0, 3, 3)", 3), 0, 1, 2, 3, 1, 2, 3);
        }
        Told y = new Told("41").tell("row(0, 4, 3); put(0, 0, 9)");
        elements(y.due("shift(0, 0, 0, 1, 2)", 2), 0, 1, 1, 0);
    }

    /** "BAD, -11 (either), -12 (no ROWS, or of unlike sorts), -13": each ahead of the next. */
    private static void shiftsRefused() {
        Told x = ofAllKinds("41").tell("row(0, 0, 3); row(1, 1, 3); keep(2, 6); keep(3, 5); put(0, 0, 5); put(1, 0, 6)");
        int[][] bad = {{-1, 4}, {4, 6}, {6, 2}, {2, -1}, {6, 6}};
        int[][] nothing = {{4, 0}, {0, 4}, {4, 2}, {2, 4}, {4, 5}, {4, 4}};
        int[][] other = {{2, 0}, {0, 2}, {2, 3}, {2, 2}, {0, 1}, {1, 0}};
        int[][] ranges = {{0, 0, 1}, {-1, 0, 1}, {0, 0, -1}, {0, 9, 1}};
        for (int[] r : ranges) {
            refuseAll(x, bad, r, Told.BAD);
            refuseAll(x, nothing, r, Told.NOTHING);
            refuseAll(x, other, r, Told.OTHER_KIND);
        }
        for (int a = 0; a < 5; a++) {
            x.tell("row(4, " + a + ", 2)");
            for (int b = 0; b < 5; b++) {
                x.tell("row(5, " + b + ", 2)").due("shift(4, 0, 5, 0, 2)", a == b ? 2 : Told.OTHER_KIND);
            }
        }
    }

    private static void refuseAll(Told x, int[][] places, int[] range, int due) {
        for (int[] p : places) {
            x.refused("shift(" + p[0] + ", " + range[0] + ", " + p[1] + ", " + range[1] + ", " + range[2] + ")", due);
        }
    }

    /** "taken for a STONE of KIND k (0 .. 6; as it is now), or under it: its KIND. BAD, -11, -12." */
    private static void takenWithin() {
        Told x = ofAllKinds("42").tell("row(1, 0, 3); row(2, 4, 0)");
        String[] under = {"0", "01", "02", "023", "04", "045", "0456"};
        for (int s = 0; s < 7; s++) {
            x.due("keep(0, " + s + ")", 1);
            for (int k = 0; k < 7; k++) {
                x.due("taken(0, " + k + ")", under[s].indexOf('0' + k) >= 0 ? s : Told.OTHER_KIND);
            }
        }
        for (int k : new int[] {Told.LEAST, -1, 7, Told.GREATEST}) {
            x.refused("taken(0, " + k + ")", -1).refused("taken(1, " + k + ")", -1).refused("taken(3, " + k + ")", -1);
        }
        for (int k = 0; k < 7; k++) {
            x.refused("taken(1, " + k + ")", Told.OTHER_KIND).refused("taken(2, " + k + ")", Told.OTHER_KIND);
            x.refused("taken(3, " + k + ")", Told.NOTHING);
        }
        x.tell("restore(1)").refused("taken(0, 6)", Told.OTHER_KIND).due("taken(0, 5)", 5).due("taken(0, 0)", 5);
    }

    /** 20 FIRSTS, a STONE 20 and a SUMMED 21, and at PLACE 0 a ROW of 60 bytes: threes of all FIRSTS. */
    private static Told twenty() {
        Told x = new Told("4");
        int[] bytes = new int[60];
        for (int n = 0; n < 20; n++) {
            x.tell("stone(1, 1, 1)");
            bytes[3 * n] = n;
            bytes[3 * n + 1] = n + 80;
            bytes[3 * n + 2] = n % 3;
        }
        return x.plain(0, 1).plain(2, 1).bytes(0, bytes);
    }

    /** "n (1 .. 20) of them, of a STONE: how many came .. BAD (a FIRST)". */
    private static void citingsOneToTwenty() {
        Told x = twenty();
        for (int n : new int[] {Told.LEAST, -1, 0, 21, Told.GREATEST}) {
            x.refused("citings(20, 0, 0, " + n + ")", -1);
        }
        for (int s : new int[] {Told.LEAST, -1, 0, 19, 22, Told.GREATEST}) {
            x.refused("citings(" + s + ", 0, 0, 1)", -1);
        }
        x.due("citings(20, 0, 0, 1)", 1).due("count(1)", 1).due("citings(21, 0, 0, 20)", 20).due("ofStone(21, 3)", 20);
        for (int n = 0; n < 20; n++) {
            x.due("ofLine(" + (n + 1) + ", 1)", n).due("ofLine(" + (n + 1) + ", 2)", n + 80).due("ofLine(" + (n + 1) + ", 3)", n % 3);
        }
        x.due("citings(20, 0, 3, 19)", 19).refused("citings(20, 0, 0, 20)", 0).due("ofStone(20, 3)", 20);
    }

    /** "it ends where the row is missing"; "-12 (no ROW of bytes; a PLACE that holds nothing is missing)". */
    private static void citingsOfAMissingRow() {
        Told x = twenty().tell("keep(1, 0); row(2, 1, 6); row(3, 4, 6); row(4, 0, 0)");
        x.refused("citings(20, 5, 0, 1)", 0).refused("citings(20, 5, 0, 20)", 0).refused("citings(20, 5, -1, 1)", 0);
        x.refused("citings(20, 4, 0, 1)", 0).refused("citings(20, 4, 0, 20)", 0);
        for (int p = 1; p < 4; p++) {
            x.refused("citings(20, " + p + ", 0, 1)", Told.OTHER_KIND).refused("citings(20, " + p + ", -1, 1)", Told.OTHER_KIND);
            x.refused("citings(20, " + p + ", 0, 0)", -1).refused("citings(0, " + p + ", 0, 1)", -1);
        }
        x.refused("citings(20, 6, 0, 1)", -1).refused("citings(20, -1, 0, 1)", -1).due("ofStone(20, 3)", 0);
    }

    /** "ends (at a place below 0, too; ..)"; "0 with i below 0". */
    private static void citingsFromBelowZeroAndBehind() {
        Told x = twenty();
        for (int i : new int[] {Told.LEAST, -4, -3, -2, -1, 60, 61, 63, Told.GREATEST - 60, Told.GREATEST - 3, Told.GREATEST}) {
            x.refused("citings(20, 0, " + i + ", 1)", 0).refused("citings(20, 0, " + i + ", 20)", 0);
        }
        x.due("citings(20, 0, 57, 20)", 1).due("ofLine(0, 1)", 19).due("ofLine(0, 2)", 99).due("ofLine(0, 3)", 1);
        x.due("citings(21, 0, 54, 1)", 1).due("ofLine(1, 1)", 18).due("citings(21, 0, 54, 2)", 0).due("citings(21, 0, 57, 2)", 1);
    }

    /** "(.. within a three, too)": the WEIGHT or the SENSE is missing, so it is a LINE of WEIGHT 1, SENSE 2 that counts. */
    private static void citingsEndWithin() {
        Told x = twenty().due("citings(20, 0, 58, 1)", 0).due("citings(20, 0, 59, 1)", 1);
        x.due("ofLine(0, 1)", 1).due("ofLine(0, 2)", 1).due("ofLine(0, 3)", 2);
        x.bytes(1, 0, 70, 1, 1, 71).due("citings(21, 1, 0, 1)", 1).due("ofLine(1, 2)", 70).due("ofLine(1, 3)", 1);
        x.due("citings(21, 1, 3, 1)", 1).due("ofLine(2, 1)", 1).due("ofLine(2, 2)", 1).due("ofLine(2, 3)", 2);
        x.bytes(2, 2, 72, 1, 3).due("citings(21, 2, 0, 20)", 2).due("ofLine(3, 2)", 72).due("ofLine(4, 1)", 3).due("ofLine(4, 2)", 1);
        x.due("ofLine(4, 3)", 2).bytes(3, 4, 73, 0).due("citings(21, 3, 0, 20)", 1).due("ofLine(5, 2)", 73).due("ofLine(5, 3)", 0);
        x.bytes(3, 5, 99, 2, 6, 1).due("citings(21, 3, 0, 1)", 1).due("citings(21, 3, 3, 1)", 1).due("count(1)", 8);
    }

    /** "one is not as a LINE may be": no such STONE, not an earlier one, one that is there; it ends, with none of WEIGHT 1. */
    private static void citingsThatAreNoLines() {
        Told x = twenty().plain(0, 1);
        int[] no = {21, 22, 23, 63, 64, 127, 128, 192, 254, 255};
        for (int s : no) {
            x.bytes(1, 0, 50, 0, s, 50, 0, 1, 50, 0).refused("citings(21, 1, 3, 2)", 0);
            x.bytes(1, s, 0, 0).refused("citings(21, 1, 0, 1)", 0).bytes(1, s).refused("citings(21, 1, 0, 1)", 0);
        }
        x.due("ofStone(21, 3)", 0).bytes(1, 0, 50, 0, 21, 50, 0, 1, 50, 0).due("citings(21, 1, 0, 3)", 1).due("ofStone(21, 3)", 1);
        x.bytes(1, 2, 50, 0, 2, 50, 0, 3, 50, 0).due("citings(21, 1, 0, 3)", 1).bytes(1, 0).refused("citings(21, 1, 0, 1)", 0);
        x.bytes(1, 20, 50, 0, 3, 50, 0).due("citings(21, 1, 0, 3)", 2).due("ofLine(2, 1)", 20).due("ofLine(3, 1)", 3);
    }

    /** "then, if a STONE stood there with a LINE that could be but for WEIGHT or SENSE (missing or not so)". */
    private static void citingsThatLackOrAreNotSo() {
        Told x = new Told("4").plain(0, 32);
        int[][] notSo = {{0, 0}, {100, 0}, {127, 0}, {128, 0}, {-1, 0}, {156, 0}, {50, 3}, {50, -1}, {50, 255}, {50, 128}, {50, 127}, {0, 3}};
        int come = 0;
        for (int[] n : notSo) {
            x.bytes(0, 0, n[0], n[1], 1, 50, 0).due("citings(" + (come + 2) + ", 0, 0, 2)", 1);
            x.due("ofLine(" + come + ", 1)", 0).due("ofLine(" + come + ", 2)", 1).due("ofLine(" + come + ", 3)", 2).due("count(1)", ++come);
        }
        int[][] so = {{1, 0}, {99, 0}, {1, 1}, {99, 2}, {257, 256}, {-157, 258}};
        for (int[] n : so) {
            x.bytes(0, 0, n[0], n[1], 1, 50, 0).due("citings(" + (come + 2) + ", 0, 0, 1)", 1);
            x.due("ofLine(" + come + ", 2)", n[0] & 255).due("ofLine(" + come + ", 3)", n[1] & 255).due("count(1)", ++come);
        }
    }

    /** "or LINES are FULL; .. (if there is room)". */
    private static void citingsWithoutRoom() {
        for (int left = 0; left < 3; left++) {
            Told x = new Told("4").plain(0, 23);
            int come = 0;
            for (int s = 1; s < 21; s++) {
                for (int on = 0; on < s && come < 200 - left; on++, come++) {
                    x.tell("line(" + s + ", " + on + ", 1)");
                }
            }
            x.bytes(0, 0, 50, 1, 1, 0, 0, 2, 50, 1).due("count(1)", 200 - left);
            x.due("citings(22, 0, 0, 3)", left).due("count(1)", 200).refused("citings(22, 0, 3, 1)", 0).refused("citings(21, 0, 0, 3)", 0);
            x.refused("citings(22, 0, 6, 1)", 0).due("ofStone(22, 3)", left);
        }
    }

    /** "How many: 0 STONES, .. 6 bodies that ran in the latest act() (all, kept or not). BAD." */
    private static void countsWithin() {
        Told x = ofAllKinds("43").tell("copy(0, 1); feed(3, 0); change(0, 0, 1); change(1, 0, 1); undo(); months(2); act(6, 3, 0)");
        for (int what : new int[] {Told.LEAST, -2, -1, 7, 8, Told.GREATEST}) {
            x.refused("count(" + what + ")", -1);
        }
        int[] due = {7, 4, 1, 2, 3, 1, 10};
        for (int what = 0; what < 7; what++) {
            x.due("count(" + what + ")", due[what]);
        }
    }
}
