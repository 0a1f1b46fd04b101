/** "An object is used for at most 512 calls after it has been made": what a bound says holds up to the last of them. */
public final class LastCallTest {
    private LastCallTest() {
    }

    public static void main(String[] args) {
        stonesToTheLast();
        linesToTheLast();
        monthsToTheLast();
        tapeToTheLast();
        copiesToTheLast();
        changesToTheLast();
        marksToTheLast();
        undoAndRedoToTheLast();
        takenToTheLast();
        namesToTheLast();
        placesToTheLast();
        actsToTheLast();
        everyBoundInOne();
        Check.end();
    }

    private static void last(Told x) {
        Check.due("the calls that were made", x.made(), Told.CALLS);
    }

    /** 64 STONES, and FULL from then on. */
    private static void stonesToTheLast() {
        Told x = new Told("2");
        for (int n = 0; n < 511; n++) {
            x.due("stone(1, 1, 1)", n < 64 ? n : Told.FULL);
        }
        last(x.due("count(0)", 64));
    }

    /** 200 LINES, and FULL from then on; 50 STONES came ahead of them. */
    private static void linesToTheLast() {
        Told x = new Told("3").plain(0, 50);
        int come = 0;
        for (int s = 49; s > 0; s--) {
            for (int on = 0; on < s && x.made() < 511; on++) {
                x.due("line(" + s + ", " + on + ", 1)", come < 200 ? come++ : Told.FULL);
            }
        }
        last(x.due("count(1)", 200));
    }

    /** One MONTH by each call: NOW is 511 then; or 599 by 24 each, and BAD from then on. */
    private static void monthsToTheLast() {
        Told x = new Told("18");
        for (int n = 0; n < 511; n++) {
            x.due("months(1)", 0);
        }
        last(x.due("count(3)", 511));
        Told y = new Told("18").until(599);
        while (y.made() < 511) {
            y.due("months(1)", -1);
        }
        last(y.due("count(3)", 599));
    }

    /** One byte ("1", "+", by turns) by each call: 120, and FULL from then on; or emptied each time. */
    private static void tapeToTheLast() {
        Told x = new Told("19");
        for (int n = 1; n <= 510; n++) {
            x.due("feed(1, " + (n % 2 == 0 ? 43 : 49) + ")", n <= 120 ? n : Told.FULL);
        }
        x.due("count(4)", 120);
        last(x.due("text(0)", -220));
        Told y = new Told("20");
        for (int n = 0; n < 255; n++) {
            y.due("feed(1, 49)", 1).due("text(" + n % 2 + ")", 1);
        }
        last(y.due("count(4)", 0).due("feed(4, 1)", 4));
    }

    /** 60 COPIES, and FULL from then on. */
    private static void copiesToTheLast() {
        Told x = new Told("23").plain(0, 1);
        for (int n = 0; n < 509; n++) {
            x.due("copy(0, 999)", n < 60 ? n : Told.FULL);
        }
        last(x.due("take(0, 1, 0)", 0).due("lacks(-2)", 60 * 999));
    }

    /** A CHANGE by each call: 40 may be UNDONE, the 40 latest. */
    private static void changesToTheLast() {
        Told x = new Told("33").plain(0, 2).due("line(1, 0, 99)", 0);
        int was = 99, made = 0;
        while (x.made() < 468) {
            int v = 1 + made % 98;
            x.due("change(0, 0, " + v + ")", was);
            was = v;
            made++;
        }
        for (int n = 39; n >= 0; n--) {
            x.due("undo()", n);
        }
        x.due("undo()", Told.STATE).due("ofLine(0, 2)", 1 + (made - 41) % 98).due("redo()", 39);
        last(x.due("count(5)", 1));
    }

    /** A MARK and none by turns. */
    private static void marksToTheLast() {
        Told x = new Told("24").plain(0, 1).due("copy(0, 1)", 0);
        for (int n = 0; n < 509; n++) {
            x.due("mark(0, " + (1 - n % 2) + ")", n % 2 == 0 ? -1 : 0);
        }
        last(x.due("count(5)", 40));
    }

    /** UNDONE and DONE AGAIN by turns. */
    private static void undoAndRedoToTheLast() {
        Told x = new Told("34").plain(0, 2).due("line(1, 0, 50)", 0).due("change(0, 0, 51)", 50).due("change(0, 0, 52)", 51);
        while (x.made() < 511) {
            x.due("undo()", 1).due("redo()", 0);
        }
        last(x.due("ofLine(0, 2)", 52));
    }

    /** TAKEN and not by turns. */
    private static void takenToTheLast() {
        Told x = new Told("10").tell("stone(1, 1, 5)");
        for (int n = 0; n < 255; n++) {
            x.due("take(0, " + n % 3 + ", " + (1 + n % 9) + ")", 0).due("restore(0)", 0);
        }
        last(x.due("ofStone(0, 2)", 100));
    }

    /** 20 NAMES, told again and again. */
    private static void namesToTheLast() {
        Told x = new Told("28").plain(0, 1);
        for (int n = 0; n < 510; n++) {
            x.due("name(0, " + n % 20 + ", " + (1 + n % 9) + ")", Math.min(n + 1, 20));
        }
        last(x.due("share(0, 19)", 1000 * (1 + 499 % 9) / sharesNow()));
    }

    private static int sharesNow() {
        int sum = 0;
        for (int n = 490; n < 510; n++) {
            sum += 1 + n % 9;
        }
        return sum;
    }

    /** A ROW of 60 by each call. */
    private static void placesToTheLast() {
        Told x = new Told("38");
        while (x.made() < 508) {
            int p = x.made() % 6;
            x.due("row(" + p + ", " + x.made() % 5 + ", 60)", 1).due("put(" + p + ", 59, 1)", 1);
        }
        x.due("row(5, 3, 60)", 1).due("element(5, 59)", 0).due("put(5, 59, 7)", 1);
        last(x.due("element(5, 59)", 7));
    }

    /** THE TRACE is that of the latest one, and BAD behind it. */
    private static void actsToTheLast() {
        Told x = new Told("36").plain(0, 1);
        int[] first = {1, 10, 11, 2}, many = {1, 2, 1, 4};
        for (int n = 0; x.made() < 508; n++) {
            x.due("act(0, " + n % 4 + ", 1)", n % 4 == 1 ? 2 : 1).due("count(6)", many[n % 4]).due("trace(0)", first[n % 4]);
        }
        last(x.due("act(0, 3, 1)", 1).due("trace(3)", 11).due("trace(4)", -1).due("act(1, 0, 1)", 0));
    }

    /** 64 STONES, 200 LINES, 60 COPIES, 120 bytes, 40 CHANGES, MONTH 599, all in one of 512 calls. */
    private static void everyBoundInOne() {
        Told x = new Told("43").plain(0, 64);
        int come = 0;
        for (int s = 63; come < 200; s--) {
            for (int on = 0; on < s && come < 200; on++) {
                x.due("line(" + s + ", " + on + ", 50)", come++);
            }
        }
        for (int n = 0; n < 60; n++) {
            x.due("copy(" + n + ", 999)", n);
        }
        for (int n = 1; n <= 30; n++) {
            x.due("feed(4, 825307441)", 4 * n);
        }
        for (int n = 1; n <= 41; n++) {
            x.tell("change(" + n + ", 0, 99)");
        }
        x.until(599).due("stone(0, 0, 0)", Told.FULL).due("line(2, 1, 50)", Told.FULL).due("copy(0, 0)", Told.FULL);
        x.due("feed(1, 49)", Told.FULL).due("months(1)", -1);
        int[] due = {64, 200, 60, 599, 120, 40, 0};
        for (int what = 0; what < 7; what++) {
            x.due("count(" + what + ")", due[what]);
        }
        x.due("ofStone(0, 8)", 4).due("ofLine(199, 0)", 60).due("text(0)", -104).due("undo()", 39).due("ofStone(63, 3)", 63);
        Check.due("within 512 calls", x.made() <= Told.CALLS ? 1 : 0, 1);
    }
}
