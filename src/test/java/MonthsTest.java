/** Promises 17 to 27: months, texts, copies, whom to tell, what lands pay. */
public final class MonthsTest {
    private MonthsTest() {
    }

    public static void main(String[] args) {
        seed();
        months();
        hearing();
        hearingByDraws();
        hearingAtTheEdge();
        hearingInOrder();
        holdingTheMore();
        feed();
        textsThatAre();
        textsThatAreNot();
        textsAreKept();
        oddsOfNames();
        oddsOfSigns();
        oddsOfLines();
        letter();
        copies();
        marks();
        lacks();
        tell();
        tellTheFirstTen();
        land();
        landsByTheMonth();
        Check.end();
    }

    private static int text(TakenBack x, int use, String text) {
        for (int i = 0; i < text.length(); i++) {
            x.feed(1, text.charAt(i));
        }
        return x.text(use);
    }

    private static int draw(int seed, int stone, int now, int use) {
        int z = seed * 69069 + 7919 * stone + 104729 * now + 13 * use;
        z = (z ^ (z >>> 15)) * 1274126177;
        return (z >>> 7) % 1000;
    }

    private static void seed() {
        TakenBack x = new TakenBack();
        Check.due("17: at first", x.seed(-2147483648), 0);
        Check.due("17: then", x.seed(5), -2147483648);
        Check.due("17: then", x.seed(5), 5);
    }

    private static void months() {
        TakenBack x = new TakenBack();
        Check.due("18: 0", x.months(0), -1);
        Check.due("18: -1", x.months(-1), -1);
        Check.due("18: 25", x.months(25), -1);
        Check.due("18: the greatest", x.months(2147483647), -1);
        Check.due("43: NOW", x.count(3), 0);
        for (int n = 0; n < 24; n++) {
            Check.due("18: none hears", x.months(24), 0);
        }
        Check.due("43: NOW", x.count(3), 576);
        Check.due("18: beyond 599", x.months(24), -1);
        Check.due("18: up to 599", x.months(23), 0);
        Check.due("43: NOW", x.count(3), 599);
        Check.due("18: one more", x.months(1), -1);
    }

    private static void hearing() {
        TakenBack x = new TakenBack();
        x.stone(1, 1, 10);
        x.stone(5, 3, 0);
        x.stone(5, 3, 0);
        x.stone(5, 3, 0);
        x.line(1, 0, 50);
        x.line(2, 1, 50);
        text(x, 0, "1000");
        Check.due("18: none is STILL", x.months(3), 0);
        x.take(0, 0, 1);
        Check.due("18: two hear, the third stands on nothing", x.months(1), 1);
        // 1 hears first and drops its line, so 2 stands on nothing TAKEN any more
        Check.due("5: 1 DROPPED", x.ofStone(1, 6), 1);
        Check.due("5: 2 did not hear", x.ofStone(2, 6), 0);
        Check.due("5: 2 is HELD", x.ofStone(2, 0), 5);
        Check.due("8: the line is DROPPED", x.ofLine(0, 4), 1);
        Check.due("8: the other is not", x.ofLine(1, 4), 0);
        x.take(1, 1, 0);
        Check.due("5: 2 is STILL", x.ofStone(2, 0), 6);
        Check.due("18: it hears", x.months(1), 1);
        Check.due("18: none hears twice", x.months(24), 0);
        x.stone(5, 1, 0);
        text(x, 0, "0");
        x.line(4, 0, 5);
        Check.due("18: by no odds none", x.months(24), 0);
        Check.due("5: it is STILL", x.ofStone(4, 0), 6);
        x.restore(0);
        Check.due("5: it is HELD", x.ofStone(4, 0), 5);
    }

    /** The odds without a TEXT, and the months in which each draw falls below them. */
    private static void hearingByDraws() {
        for (int seed : new int[] {0, 1, -77, 123456789}) {
            TakenBack x = new TakenBack();
            x.seed(seed);
            x.stone(1, 1, 10);
            for (int n = 1; n < 6; n++) {
                x.stone(5, 1, 0);
                x.line(n, 0, 10);
            }
            x.take(0, 1, 0);
            text(x, 1, "500");
            int[] heard = new int[6];
            for (int now = 1; now <= 30; now++) {
                int many = 0;
                for (int n = 1; n < 6; n++) {
                    if (heard[n] == 0 && draw(seed, n, now, 0) < 100) {
                        heard[n] = draw(seed, n, now, 1) < 500 ? 2 : 1;
                        many++;
                    }
                }
                Check.due("18: month " + now + " by seed " + seed, x.months(1), many);
                for (int n = 1; n < 6; n++) {
                    Check.due("5: " + n + " by seed " + seed, x.ofStone(n, 6), heard[n]);
                }
            }
        }
    }

    /** A draw that is as great as the odds is not below them. */
    private static void hearingAtTheEdge() {
        for (int more = 0; more < 2; more++) {
            for (int hold = 0; hold < 2; hold++) {
                TakenBack x = new TakenBack();
                x.stone(1, 1, 10);
                x.stone(5, 1, 0);
                x.line(1, 0, 10);
                x.take(0, 1, 0);
                text(x, 0, "" + (draw(0, 1, 1, 0) + more));
                text(x, 1, "" + (draw(0, 1, 1, 1) + hold));
                Check.due("18: at the edge of HEARS", x.months(1), more);
                Check.due("5: at the edge of BACK", x.ofStone(1, 6), more == 0 ? 0 : hold == 0 ? 1 : 2);
            }
        }
    }

    private static void hearingInOrder() {
        TakenBack x = new TakenBack();
        x.stone(1, 1, 10);
        x.stone(5, 3, 0);
        x.stone(4, 0, 0);
        x.stone(5, 3, 0);
        x.line(1, 0, 50);
        x.line(2, 0, 60);
        x.line(3, 2, 50);
        x.line(3, 1, 50);
        x.take(0, 1, 0);
        // n is asked as it is then; what stands between keeps 3 STILL
        text(x, 0, "m=1?1000;0");
        Check.due("18: both hear in the first month", x.months(24), 2);
        Check.due("8: of 3 no line is DROPPED", x.ofLine(2, 4), 0);
        Check.due("8: nor this", x.ofLine(3, 4), 0);
        Check.due("5: of one it is", x.ofLine(0, 4), 1);
        Check.due("5: 3 HEARD", x.ofStone(3, 6), 1);
        Check.due("5: it is HELD", x.ofStone(3, 0), 5);
    }

    private static void holdingTheMore() {
        TakenBack x = new TakenBack();
        x.stone(1, 1, 100);
        x.stone(1, 3, 100);
        x.stone(5, 3, 0);
        x.line(2, 0, 10);
        x.line(2, 1, 120);
        x.take(0, 2, 0);
        text(x, 0, "1000");
        text(x, 1, "1000");
        x.change(0, 0, 20);
        Check.due("18: it hears", x.months(1), 1);
        Check.due("5: it HOLDS THE MORE", x.ofStone(2, 6), 2);
        Check.due("8: WEIGHT is 99", x.ofLine(0, 2), 99);
        Check.due("8: of what is not TAKEN as it was", x.ofLine(1, 2), 20);
        Check.due("8: no line is DROPPED", x.ofLine(0, 4), 0);
        Check.due("43: no CHANGE", x.count(5), 1);
        Check.due("9: 99 is there already", x.change(0, 0, 99), 99);
        Check.due("43: so no CHANGE either", x.count(5), 1);
        Check.due("5: COUNTS", x.ofStone(2, 2), 990 + 400);
        Check.due("33: put back as a CHANGE had it", x.undo(), 0);
        Check.due("8: WEIGHT then", x.ofLine(0, 2), 10);
        Check.due("34: done again", x.redo(), 0);
        Check.due("8: WEIGHT then", x.ofLine(0, 2), 20);
        Check.due("18: it hears no more", x.months(24), 0);
        holdingTheMoreThanTold();
    }

    /** What was told last is another WEIGHT than the 99 that came: told again, it is a CHANGE. */
    private static void holdingTheMoreThanTold() {
        TakenBack x = new TakenBack();
        x.stone(1, 1, 100);
        x.stone(5, 3, 0);
        x.line(1, 0, 10);
        x.take(0, 2, 0);
        text(x, 0, "1000");
        text(x, 1, "1000");
        x.change(0, 0, 20);
        Check.due("18: it hears", x.months(1), 1);
        Check.due("9: another one than 99", x.change(0, 0, 20), 99);
        Check.due("43: a CHANGE", x.count(5), 2);
        Check.due("33: undone", x.undo(), 1);
        Check.due("8: WEIGHT as the CHANGE had it", x.ofLine(0, 2), 99);
        Check.due("33: undone", x.undo(), 0);
        Check.due("8: WEIGHT as the first CHANGE had it", x.ofLine(0, 2), 10);
    }

    private static void feed() {
        TakenBack x = new TakenBack();
        Check.due("19: 0 bytes", x.feed(0, 1), -1);
        Check.due("19: 5 bytes", x.feed(5, 1), -1);
        Check.due("19: -1 bytes", x.feed(-1, 1), -1);
        for (int n = 1; n <= 29; n++) {
            Check.due("19: four bytes", x.feed(4, 0x2b312b31), 4 * n);
        }
        Check.due("19: three bytes", x.feed(3, 0x2b312b), 119);
        Check.due("19: too many", x.feed(2, 0x3131), -3);
        Check.due("43: bytes", x.count(4), 119);
        Check.due("19: wrong ahead of full", x.feed(5, 0), -1);
        Check.due("19: the last one", x.feed(1, 0x31), 120);
        Check.due("19: no more", x.feed(1, 0x31), -3);
        Check.due("20: such a text is read, up to the fault", x.text(0), -216);
        Check.due("43: bytes", x.count(4), 0);
        Check.due("19: the lowest first", x.feed(3, 0x77312d6d), 3);
        Check.due("20: it is m-1", x.text(0), 1);
        x.stone(5, 1, 0);
        Check.due("21: below 0 is 0", x.odds(0, 0), 0);
    }

    private static void textsThatAre() {
        TakenBack x = new TakenBack();
        String[] texts = {"0", "9999", "m", "w", "s", "n", "c", "h", "l", "1|2|3", "1&2&3", "1<2", "1=2", "1>2", "1+2-3",
            "1*2/3%4", "!1", "-1", "!!!!!!1", "------1", "((((((1))))))", "(!(-(!1)))", "-1*-1*-1*-1*-1*-1*-1*-1",
            "(1)+(1)+(1)+(1)+(1)+(1)+(1)+(1)", "1?2", "1;2", "1?2;3?4;5", "(1<2)=(3>4)", "1<2&3<4|5=6", "1<(2<3)", "0007",
            "1--1", "1-!1", "1+-1", "1?((((((1))))))", "((((((1))))))?1"};
        for (String t : texts) {
            Check.due("20: " + t, text(x, 0, t), 1);
            Check.due("43: the tape is empty", x.count(4), 0);
        }
        StringBuilder most = new StringBuilder("1");
        for (int n = 0; n < 59; n++) {
            most.append("+1");
        }
        Check.due("20: 119 bytes", text(x, 0, most.toString()), 1);
        Check.due("20: 120 bytes", text(x, 0, most.toString() + "0"), 1);
        x.stone(5, 1, 0);
        Check.due("21: of 120 bytes", x.odds(0, 0), 69);
        Check.due("20: 120 bytes, each a sign of its own", text(x, 0, "-1" + "+1".repeat(59)), 1);
        Check.due("21: of these", x.odds(0, 0), 58);
        Check.due("20: many lines", text(x, 0, "0?1;".repeat(29) + "1?7"), 1);
        Check.due("21: of many lines", x.odds(0, 0), 7);
    }

    private static void textsThatAreNot() {
        TakenBack x = new TakenBack();
        Object[][] texts = {{"", 0}, {";", 0}, {"?", 0}, {")", 0}, {" 1", 0}, {"x", 0}, {"M", 0}, {"+1", 0}, {"1 ", 1},
            {"1;", 2}, {"1?", 2}, {"1?2?3", 3}, {"1?2;", 4}, {"?1", 0}, {"1;;2", 2}, {"(1", 2}, {"(1;2)", 2}, {"(1?2)", 2},
            {"()", 1}, {"1)", 1}, {"(1))", 3}, {"12345", 4}, {"1+", 2}, {"1+*2", 2}, {"1<2<3", 3}, {"1<2=3", 3}, {"1=2>3", 3},
            {"(1<2>3)", 4}, {"!!!!!!!1", 6}, {"-------1", 6}, {"(((((((1", 6}, {"1?(((((((1", 8}, {"1;(((((((1", 8}, {"!-(!-((1", 6}, {"((((((1)))))", 12},
            {"1!", 1}, {"1m", 1}, {"m1", 1}, {"mm", 1}, {"1!=2", 1}, {"1<=2", 2}, {"1&&2", 2}, {"1||2", 2}, {"!", 1}, {"-", 1},
            {"1\0002", 1}, {"\u00ff", 0}, {"((((((1)))+((((1", 14}, {"((((((1)))+(((1", 15}, {"(((((1)))))+((((((-", 18}};
        for (Object[] t : texts) {
            Check.due("20: " + t[0], text(x, 0, (String) t[0]), -100 - (Integer) t[1]);
            Check.due("43: the tape is empty", x.count(4), 0);
        }
    }

    private static void textsAreKept() {
        TakenBack x = new TakenBack();
        x.stone(5, 4, 0);
        Check.due("21: HEARS without a TEXT", x.odds(0, 0), 100);
        Check.due("21: BACK without a TEXT", x.odds(0, 1), 0);
        text(x, 0, "7");
        text(x, 1, "8");
        Check.due("21: HEARS", x.odds(0, 0), 7);
        Check.due("21: BACK", x.odds(0, 1), 8);
        text(x, 0, "1+");
        Check.due("21: what is none changes none", x.odds(0, 0), 7);
        x.feed(1, '9');
        Check.due("20: use 2", x.text(2), -1);
        Check.due("20: use -1", x.text(-1), -1);
        Check.due("43: it stays", x.count(4), 1);
        Check.due("20: it is taken then", x.text(1), 1);
        Check.due("21: BACK", x.odds(0, 1), 9);
        x.stone(1, 1, 1);
        x.stone(4, 1, 1);
        Check.due("21: of a FIRST", x.odds(1, 0), -1);
        Check.due("21: of a SAID", x.odds(2, 0), -1);
        Check.due("21: of none", x.odds(3, 0), -1);
        Check.due("21: of -1", x.odds(-1, 0), -1);
        Check.due("21: use 2", x.odds(0, 2), -1);
        Check.due("21: use -1", x.odds(0, -1), -1);
    }

    private static void odds(TakenBack x, int stone, String text, int due) {
        Check.due("20: " + text, text(x, 0, text), 1);
        Check.due("21: " + text, x.odds(stone, 0), due);
    }

    private static void oddsOfNames() {
        TakenBack x = new TakenBack();
        x.stone(1, 1, 1);
        x.stone(1, 1, 1);
        x.stone(4, 0, 0);
        x.stone(5, 6, 0);
        x.stone(5, 7, 0);
        x.line(2, 0, 33);
        x.line(2, 1, 33);
        x.line(3, 2, 120);
        x.line(3, 1, 240);
        x.copy(0, 5);
        x.copy(0, 5);
        x.copy(0, 5);
        x.copy(1, 5);
        x.copy(2, 5);
        x.mark(1, 1);
        odds(x, 3, "m*100+c*10+7", 7);
        x.months(2);
        x.take(1, 0, 4);
        x.months(3);
        x.take(0, 1, 0);
        text(x, 0, "0");
        x.months(4);
        odds(x, 3, "m", 7);
        odds(x, 3, "w", 40);
        odds(x, 3, "s", 1);
        odds(x, 3, "n", 2);
        odds(x, 3, "c", 3);
        odds(x, 3, "h", 6);
        odds(x, 3, "l", 0);
        x.letter(3);
        odds(x, 3, "l", 1);
        odds(x, 4, "m+w+s+n+c+l", 0);
        odds(x, 4, "h", 7);
        x.take(4, 1, 0);
        odds(x, 4, "m+1", 1);
        x.change(2, 0, 77);
        odds(x, 3, "w", 77);
        x.change(2, 1, 2);
        odds(x, 3, "s", 2);
        x.restore(1);
        odds(x, 3, "m*100+c", 402);
        // dropped lines are none of its lines any more
        x.take(2, 1, 0);
        text(x, 0, "1000");
        Check.due("18: it hears", x.months(1), 1);
        odds(x, 3, "n*100+w", 140);
        odds(x, 3, "c", 0);
    }

    private static void oddsOfSigns() {
        TakenBack x = new TakenBack();
        x.stone(5, 5, 0);
        odds(x, 0, "2+3*4", 14);
        odds(x, 0, "(2+3)*4", 20);
        odds(x, 0, "20-3-4", 13);
        odds(x, 0, "100/7", 14);
        odds(x, 0, "100/7/7", 2);
        odds(x, 0, "100%7", 2);
        odds(x, 0, "5/0+9", 9);
        odds(x, 0, "5%0+9", 9);
        odds(x, 0, "0-7/2+10", 7);
        odds(x, 0, "-7/2+10", 7);
        odds(x, 0, "-7%4+10", 7);
        odds(x, 0, "5<6", 1);
        odds(x, 0, "6<5", 0);
        odds(x, 0, "5<5", 0);
        odds(x, 0, "5=5", 1);
        odds(x, 0, "5=6", 0);
        odds(x, 0, "6>5", 1);
        odds(x, 0, "5>5", 0);
        odds(x, 0, "2+3=5", 1);
        odds(x, 0, "(5=5)+(6=6)", 2);
        odds(x, 0, "7|0", 1);
        odds(x, 0, "0|0", 0);
        odds(x, 0, "0|0|9", 1);
        odds(x, 0, "7&9", 1);
        odds(x, 0, "7&0", 0);
        odds(x, 0, "6&5&4&0", 0);
        odds(x, 0, "1|0&0", 1);
        odds(x, 0, "0&0|1", 1);
        odds(x, 0, "1<2&3", 1);
        odds(x, 0, "!0", 1);
        odds(x, 0, "!7", 0);
        odds(x, 0, "!!7", 1);
        odds(x, 0, "!-0", 1);
        odds(x, 0, "!0*50", 50);
        odds(x, 0, "!(0*50)", 1);
        odds(x, 0, "--9", 9);
        odds(x, 0, "9--9", 18);
        odds(x, 0, "-9", 0);
        odds(x, 0, "1001", 1000);
        odds(x, 0, "1000", 1000);
        odds(x, 0, "999", 999);
        odds(x, 0, "0-1", 0);
        // 9999 * 9999 * 9999 wraps to -1027349969
        odds(x, 0, "9999*9999*9999%1000", 0);
        odds(x, 0, "-(9999*9999*9999%1000)+2", 971);
        odds(x, 0, "9999*9999*9999/1000/1000+1030", 3);
        // 4096 * 4096 * 128 is the least int: by -1 it is itself, and nothing is left
        odds(x, 0, "(4096*4096*128/-1)/1000/1000+2150", 3);
        odds(x, 0, "(4096*4096*128)%-1+8", 8);
    }

    private static void oddsOfLines() {
        TakenBack x = new TakenBack();
        x.stone(5, 5, 0);
        odds(x, 0, "0?9;8", 8);
        odds(x, 0, "1?9;8", 9);
        odds(x, 0, "-3?9;8", 9);
        odds(x, 0, "0?9", 0);
        odds(x, 0, "0?9;0?8", 0);
        odds(x, 0, "7;1?9", 7);
        odds(x, 0, "h<5?1;h>5?2;h=5?3;4", 3);
        odds(x, 0, "h-5?1;l?2;6", 6);
        odds(x, 0, "0;5", 0);
    }

    private static void letter() {
        TakenBack x = new TakenBack();
        x.stone(5, 1, 0);
        x.stone(4, 1, 0);
        x.stone(1, 1, 1);
        Check.due("22: told", x.letter(0), 1);
        Check.due("22: it was", x.letter(0), 0);
        Check.due("22: to a SAID", x.letter(1), -1);
        Check.due("22: to a FIRST", x.letter(2), -1);
        Check.due("22: to none", x.letter(3), -1);
        Check.due("22: to -1", x.letter(-1), -1);
        x.stone(5, 1, 0);
        x.line(3, 2, 1);
        x.take(2, 1, 0);
        Check.due("22: to a STILL one", x.letter(3), 1);
    }

    private static void copies() {
        TakenBack x = new TakenBack();
        x.stone(1, 1, 1);
        int[][] wrong = {{1, 1}, {-1, 1}, {0, -1}, {0, 1000}};
        for (int[] w : wrong) {
            Check.due("23: copy(" + w[0] + ", " + w[1] + ")", x.copy(w[0], w[1]), -1);
        }
        for (int n = 0; n < 60; n++) {
            Check.due("23: copy", x.copy(0, n % 2 == 0 ? 0 : 999), n);
        }
        Check.due("23: the 61st", x.copy(0, 1), -3);
        Check.due("23: a wrong 61st", x.copy(0, 1000), -1);
        Check.due("43: COPIES", x.count(2), 60);
        x.take(0, 1, 0);
        Check.due("25: REACH of all", x.lacks(-2), 30 * 999);
        Check.due("25: the last one", x.lacks(59), 59);
        Check.due("24: of the last one", x.mark(59, 1), -1);
        Check.due("24: of none", x.mark(60, 1), -2000000000);
    }

    private static void marks() {
        TakenBack x = new TakenBack();
        x.stone(1, 1, 1);
        x.copy(0, 1);
        Check.due("24: none, and none before", x.mark(0, 0), -1);
        Check.due("43: no CHANGE", x.count(5), 0);
        Check.due("24: a MARK", x.mark(0, 1), -1);
        Check.due("43: a CHANGE", x.count(5), 1);
        Check.due("24: the same", x.mark(0, 1), 0);
        Check.due("43: no CHANGE", x.count(5), 1);
        x.months(5);
        Check.due("24: since NOW", x.mark(0, 1), 0);
        Check.due("43: a CHANGE", x.count(5), 2);
        Check.due("24: none", x.mark(0, 0), 5);
        Check.due("43: a CHANGE", x.count(5), 3);
        Check.due("33: undone", x.undo(), 2);
        Check.due("33: undone", x.undo(), 1);
        Check.due("24: it bore one since 0; the same as none", x.mark(0, 0), 0);
        int[][] wrong = {{1, 0}, {-1, 0}, {0, 2}, {0, -1}};
        for (int[] w : wrong) {
            Check.due("24: mark(" + w[0] + ", " + w[1] + ")", x.mark(w[0], w[1]), -2000000000);
        }
    }

    private static void lacks() {
        TakenBack x = new TakenBack();
        x.stone(1, 1, 1);
        x.stone(1, 1, 1);
        x.copy(0, 10);
        x.copy(1, 20);
        x.copy(0, 30);
        x.copy(0, 40);
        Check.due("25: none is TAKEN", x.lacks(-1), 0);
        Check.due("25: no REACH", x.lacks(-2), 0);
        x.take(0, 2, 0);
        x.mark(2, 1);
        Check.due("25: how many", x.lacks(-1), 2);
        Check.due("25: the first", x.lacks(0), 0);
        Check.due("25: the second", x.lacks(1), 3);
        Check.due("25: no third", x.lacks(2), -1);
        Check.due("25: i -3", x.lacks(-3), -1);
        Check.due("25: REACH", x.lacks(-2), 50);
        x.restore(0);
        x.take(1, 0, 1);
        Check.due("25: the other one", x.lacks(0), 1);
    }

    private static void tell() {
        TakenBack x = new TakenBack();
        x.stone(1, 1, 10);
        x.stone(5, 3, 0);
        x.stone(5, 2, 0);
        x.stone(5, 1, 0);
        x.stone(4, 0, 0);
        x.stone(4, 0, 0);
        x.stone(4, 0, 0);
        x.line(1, 0, 10);
        x.line(2, 0, 10);
        x.line(3, 0, 10);
        Check.due("26: none is STILL", x.tell(60, 0), 0);
        x.take(0, 0, 1);
        x.line(4, 1, 10);
        x.line(5, 4, 10);
        x.line(6, 2, 10);
        x.line(6, 1, 10);
        // 1: 1 4 5 6, 3 HOURS; 2: 2 6, 2 HOURS; 3: 3, 1 HOUR
        int[][] due = {{0, 0, 0, 0}, {1, 1, 1, 4}, {2, 2, 2, 2}, {3, 4, 3, 1}, {4, 5, 4, 5}, {5, 5, 4, 5}, {6, 6, 6, 7},
            {60, 6, 6, 7}};
        for (int[] d : due) {
            Check.due("26: tell(" + d[0] + ", 0)", x.tell(d[0], 0), d[1]);
            Check.due("26: tell(" + d[0] + ", 1)", x.tell(d[0], 1), d[2]);
            Check.due("26: tell(" + d[0] + ", 2)", x.tell(d[0], 2), d[3]);
        }
        int[][] wrong = {{-1, 0}, {61, 0}, {0, -1}, {0, 3}};
        for (int[] w : wrong) {
            Check.due("26: tell(" + w[0] + ", " + w[1] + ")", x.tell(w[0], w[1]), -1);
        }
    }

    private static void tellTheFirstTen() {
        TakenBack x = new TakenBack();
        x.stone(1, 1, 10);
        for (int n = 1; n <= 12; n++) {
            x.stone(5, n == 11 ? 1 : 6, 0);
            x.line(n, 0, 10);
        }
        x.take(0, 1, 0);
        Check.due("26: the eleventh is not asked", x.tell(1, 0), 0);
        Check.due("26: all ten", x.tell(60, 2), 1023);
        Check.due("26: ten of them", x.tell(60, 0), 10);
        Check.due("26: the least of like ones", x.tell(17, 2), 3);
    }

    private static void land() {
        TakenBack x = new TakenBack();
        x.stone(1, 10, 10);
        x.stone(1, 20, 10);
        x.stone(3, 15, 307);
        x.stone(3, 0, 311);
        x.stone(3, 15, 499);
        for (int n = 2; n < 5; n++) {
            x.line(n, 0, 50);
            x.line(n, 1, 50);
        }
        x.months(2);
        Check.due("27: none is TAKEN", x.land(3), 0);
        // 10 in doubt: 50 * 10 and 100 * 20 by 150 = 16: YES; as a LIE 20: YES
        x.take(0, 2, 0);
        x.months(3);
        Check.due("27: it says the same", x.land(3), 0);
        x.restore(0);
        x.take(1, 0, 1);
        x.change(1, 0, 99);
        Check.due("7: YES", x.says(2), 1);
        Check.due("27: from NOW on", x.land(3), 0);
        x.months(4);
        Check.due("27: four months of 7", x.land(3), 28);
        Check.due("27: another LAND: worth 14 says NO either way", x.land(4), 0);
        x.change(5, 0, 99);
        Check.due("27: another LAND", x.land(4), 396);
        Check.due("27: no such rule", x.land(0), 0);
        Check.due("27: LAND 8", x.land(8), -1);
        Check.due("27: LAND -1", x.land(-1), -1);
        x.take(2, 1, 0);
        Check.due("27: what says NO at any rate", x.land(3), 0);
        TakenBack y = new TakenBack();
        y.stone(1, 10, 10);
        y.stone(1, 10, 10);
        y.stone(3, 10, 799);
        y.stone(3, 10, 700);
        y.stone(3, 10, 1);
        for (int n = 2; n < 5; n++) {
            y.line(n, 0, 50);
            y.line(n, 1, 50);
        }
        y.take(0, 2, 0);
        y.take(1, 0, 9);
        y.months(1);
        Check.due("27: the last LAND, by both from month 0 on", y.land(7), 99);
        Check.due("27: the first LAND", y.land(0), 1);
        Check.due("27: none between", y.land(6), 0);
    }

    private static void landsByTheMonth() {
        TakenBack x = new TakenBack();
        x.stone(1, 10, 10);
        x.stone(2, 0, 0);
        x.line(1, 0, 99);
        x.months(1);
        x.take(1, 0, 1);
        x.months(2);
        x.take(0, 2, 0);
        x.stone(3, 5, 10);
        x.line(2, 1, 99);
        x.months(4);
        x.stone(3, 5, 1);
        x.line(3, 1, 99);
        x.months(5);
        // the rule of month 3 from 3 on, that of month 7 from 7 on; NOW is 12
        Check.due("27: from its own month on", x.land(0), 9 * 10 + 5);
        x.take(1, 0, 1);
        Check.due("27: from the first that is TAKEN on", x.land(0), 9 * 10 + 5);
        x.take(0, 2, 0);
        Check.due("27: all told again", x.land(0), 0);
        x.months(3);
        Check.due("27: three months", x.land(0), 33);
        x.restore(0);
        Check.due("27: no FIRST is TAKEN", x.land(0), 0);
    }
}
