import java.util.ArrayList;
import java.util.List;

/** The sentences of part 3 of the Terms on THE TAPE and TEXTS that name a bound (promises 19 to 21). */
public final class BoundsOfTextsTest {
    private static final String DIGITS = "0123456789", NAMES = "mwsnchl", OPENS = "(!-", SIGNS = "|&+-*/%", LIKE = "<=>";

    private BoundsOfTextsTest() {
    }

    public static void main(String[] args) {
        bytesOneToFour();
        tapeOf120();
        tapeStays();
        textOf120();
        emptyTape();
        everyByteBehind();
        endsTooEarly();
        sixOpenAtOnce();
        sevenOpenAtOnce();
        openOnesThatEnded();
        oneToFourDigits();
        comparedOnce();
        oneConditionALine();
        linesParted();
        whichLineCounts();
        towardZeroAndByZero();
        intsThatWrap();
        oneOrZero();
        whatBindsMore();
        usesZeroAndOne();
        faultsKeepTheText();
        Check.end();
    }

    /** "n (1 .. 4) bytes come to THE TAPE, the lowest of v first". */
    private static void bytesOneToFour() {
        Told x = new Told("19").tell("stone(5, 1, 0)");
        int v = '1' | '2' << 8 | '3' << 16 | '4' << 24;
        int[] wrong = {Told.LEAST, -1, 0, 5, 6, Told.GREATEST};
        for (int n : wrong) {
            x.refused("feed(" + n + ", " + v + ")", -1);
        }
        int[] odds = {1, 12, 123, 1000};
        for (int n = 1; n <= 4; n++) {
            x.due("feed(" + n + ", " + v + ")", n).due("count(4)", n).due("text(0)", 1).due("odds(0, 0)", odds[n - 1]);
        }
        x.due("feed(4, -1)", 4).due("text(0)", -100).due("feed(4, " + Told.LEAST + ")", 4).due("text(0)", -100);
        x.due("feed(1, " + (0x7fffff00 | '9') + ")", 1).due("text(0)", 1).due("odds(0, 0)", 9);
        x.due("feed(2, " + (0x80000000 | '9' << 8 | '9') + ")", 2).due("text(0)", 1).due("odds(0, 0)", 99);
    }

    /** "at most 120 bytes"; "how many it has. BAD, FULL." */
    private static void tapeOf120() {
        for (int left = 0; left < 4; left++) {
            Told x = new Told("19").feed("1".repeat(120 - left)).due("count(4)", 120 - left);
            for (int n = left + 1; n <= 4; n++) {
                x.refused("feed(" + n + ", 12345)", Told.FULL);
            }
            x.refused("feed(5, 12345)", -1).refused("feed(0, 12345)", -1).due("count(4)", 120 - left);
            if (left > 0) {
                x.due("feed(" + left + ", 12345)", 120).refused("feed(1, 1)", Told.FULL);
            }
            x.due("text(0)", -104).due("count(4)", 0).due("feed(4, 1)", 4);
        }
    }

    /** "BAD (it stays)": THE TAPE of a USE that is none. */
    private static void tapeStays() {
        Told x = new Told("20").tell("stone(5, 1, 0)").feed("77");
        int[] wrong = {Told.LEAST, -1, 2, Told.GREATEST};
        for (int use : wrong) {
            x.refused("text(" + use + ")", -1);
        }
        x.due("count(4)", 2).due("text(0)", 1).due("count(4)", 0).due("odds(0, 0)", 77).refused("text(2)", -1);
    }

    /** A TEXT of 120 bytes is read whole; its end, or what is behind it, may be the FAULT. */
    private static void textOf120() {
        oddsBy("-1" + "+1".repeat(59), 58);
        oddsBy("1" + "+1".repeat(59), 60);
        oddsBy("7;" + "1;".repeat(58) + "12", 7);
        oddsBy("0?1;".repeat(29) + "0?99", 0);
        oddsBy("0?1;".repeat(29) + "1?99", 99);
        oddsBy("0?1;".repeat(29) + "0?-1", 0);
        oddsBy("0?1;".repeat(29) + "9876", 1000);
        oddsBy("1" + "*9999".repeat(23) + "*000", 0);
        oddsBy("((((((" + "1+".repeat(53) + "01))))))", 54);
        oddsBy("0|".repeat(59) + "!0", 1);
        oddsBy("1&".repeat(59) + "!0", 1);
        oddsBy("m".concat("-1".repeat(59)).concat("0").substring(0, 120), 0);
        String[] wrong = {"1+".repeat(60), "1+".repeat(59) + "1 ", "1;".repeat(60), "12345" + "1".repeat(115),
            "((((((" + "1+".repeat(57), "((((((" + "1+".repeat(53) + "001)))))", "1?".repeat(60)};
        int[] at = {120, 119, 120, 4, 120, 120, 3};
        for (int n = 0; n < wrong.length; n++) {
            Check.due("20: text of " + wrong[n], textOf(wrong[n]), -100 - at[n]);
        }
    }

    private static void oddsBy(String text, int due) {
        new Told("20").tell("stone(5, 1, 0)").odds(0, text, due);
    }

    /** "LINES OF A TEXT, one or more": none is no TEXT. */
    private static void emptyTape() {
        Told x = new Told("20").tell("stone(5, 1, 0)").due("text(0)", -100).due("text(1)", -100);
        x.due("odds(0, 0)", 100).due("odds(0, 1)", 0).text(0, "5", 1).due("text(0)", -100).due("odds(0, 0)", 5);
    }

    /** Each byte from 0 to 255 behind a beginning: those with which a TEXT goes on, and all others as the FAULT. */
    private static void everyByteBehind() {
        String operand = DIGITS + NAMES + OPENS, opened = SIGNS + LIKE + ")", behind = SIGNS + LIKE + "?;", compared = SIGNS + "?;";
        String[][] next = {{"", operand}, {"1", behind + DIGITS}, {"12", behind + DIGITS}, {"123", behind + DIGITS},
            {"1234", behind}, {"0000", behind}, {"m", behind}, {"l", behind}, {"1+", operand}, {"1|", operand}, {"1&", operand},
            {"1*", operand}, {"1/", operand}, {"1%", operand}, {"1-", operand}, {"1<", operand}, {"1=", operand}, {"1>", operand},
            {"m<m", compared}, {"m=m", compared}, {"m>m", compared}, {"m<m|m", behind}, {"m<m&m", behind}, {"m<m+m", compared},
            {"m<m*1234", compared}, {"m<(m<m)", compared}, {"(m<m)", behind}, {"(m<m", SIGNS + ")"}, {"m?m", SIGNS + LIKE + ";"},
            {"m?m<m", SIGNS + ";"}, {"m?", operand}, {"m;", operand}, {"m?m;", operand}, {"m;m", behind}, {"m?m;m", behind},
            {"(", operand}, {"(m", opened}, {"(m)", behind}, {"((m)", opened}, {"((m))", behind}, {"m<m;m", behind},
            {"(((((", operand}, {"((((((", DIGITS + NAMES}, {"((((((1", opened + DIGITS}, {"((((((1234", opened},
            {"((((((m)", opened}, {"((((((m)+", operand}, {"((((((m)+(", DIGITS + NAMES}, {"!", operand}, {"-", operand}, {"!!!!!", operand}, {"!!!!!!", DIGITS + NAMES},
            {"-----", operand}, {"------", DIGITS + NAMES}, {"!-(!-(", DIGITS + NAMES}, {"!-(!-(m", opened}, {"!m", behind},
            {"-m", behind}, {"!!!!!!m", behind}, {"!!!!!!m+", operand}, {"((((((m))))))+", operand}, {"((((((m))))))?", operand},
            {"((((((m))))))?!!!!!", operand}, {"m;((((((", DIGITS + NAMES}};
        for (String[] n : next) {
            for (int b = 0; b < 256; b++) {
                int answer = textOf(n[0] + (char) b), at = -100 - n[0].length();
                boolean goesOn = n[1].indexOf(b) >= 0;
                String call = "20: text of " + n[0] + " and the byte " + b;
                Check.due(call, answer == 1 || answer == at - 1 ? 1 : answer == at ? 0 : -1, goesOn ? 1 : 0);
            }
        }
    }

    private static int textOf(String bytes) {
        TakenBack x = new TakenBack();
        for (int i = 0; i < bytes.length(); i++) {
            x.feed(1, bytes.charAt(i));
        }
        return x.text(0);
    }

    /** "the length, if it ends too early": each beginning of a TEXT is either one or ends too early. */
    private static void endsTooEarly() {
        String text = "m-12<3&!(w=1|-s*4)?(n+c)/2%-h;l>0?1000;9";
        String ends = "mwsnchl0123456789)";
        List<Integer> open = new ArrayList<>();
        for (int n = 0; n <= text.length(); n++) {
            boolean inside = n > 0 && count(text, n, '(') > count(text, n, ')');
            boolean whole = n > 0 && !inside && ends.indexOf(text.charAt(n - 1)) >= 0;
            Check.due("20: text of " + text.substring(0, n), textOf(text.substring(0, n)), whole ? 1 : -100 - n);
            if (whole) {
                open.add(n);
            }
        }
        Check.due("20: how many of these are TEXTS", open.size(), 15);
    }

    private static int count(String text, int to, char of) {
        int many = 0;
        for (int i = 0; i < to; i++) {
            many += text.charAt(i) == of ? 1 : 0;
        }
        return many;
    }

    /** "At most 6 of ( ! - ahead of an O are open at once": every six of them. */
    private static void sixOpenAtOnce() {
        for (int set = 0; set < 729; set++) {
            StringBuilder t = new StringBuilder(), ends = new StringBuilder();
            for (int k = 0, rest = set; k < 6; k++, rest /= 3) {
                t.append(OPENS.charAt(rest % 3));
                ends.append(rest % 3 == 0 ? ")" : "");
            }
            Check.due("20: text of " + t + "m" + ends, textOf(t + "m" + ends), 1);
            for (int k = 0; k < 3; k++) {
                Check.due("20: text of " + t + OPENS.charAt(k) + "m", textOf(t.toString() + OPENS.charAt(k) + "m"), -106);
            }
        }
    }

    /** The seventh one is the FAULT, wherever it stands. */
    private static void sevenOpenAtOnce() {
        String[] ahead = {"", "1+", "1|2&", "1<2-", "7;", "m?", "m?n;", "(1)*", "!1-", "((((((1))))))+", "------1*", "(", "(1+", "!(2*"};
        int[] open = {0, 0, 0, 0, 0, 0, 0, 0, 0, 0, 0, 1, 1, 2};
        for (int n = 0; n < ahead.length; n++) {
            String six = ahead[n] + "(".repeat(6 - open[n]);
            Check.due("20: text of " + six, textOf(six), -100 - six.length());
            Check.due("20: text of " + six + "(", textOf(six + "("), -100 - six.length());
            Check.due("20: text of " + six + "!", textOf(six + "!"), -100 - six.length());
            Check.due("20: text of " + six + "-1", textOf(six + "-1"), -100 - six.length());
            String ended = six + "1" + ")".repeat(ahead[n].startsWith("!(") ? 5 : 6);
            Check.due("20: text of " + ended, textOf(ended), 1);
        }
    }

    /** A ( is open up to its ), a ! and a - up to the end of the O ahead of which they stand; a - between two is none. */
    private static void openOnesThatEnded() {
        String[] right = {"(((((1)+(1)))))", "((((((1)+(1))))))".substring(1, 16), "!!!!!!1+!!!!!!1", "------1------1", "-(-(-(1)-(1)))-1",
            "(1-(1-(1-(1-(1-(1-1))))))", "!!!!!(1)-!!!!!(1)", "((((((1)))))+1)", "((((((1)+1)+1)+1)+1)+1)", "!(!(!(1)))&!(!(!(1)))"};
        for (String t : right) {
            Check.due("20: text of " + t, textOf(t), 1);
        }
        String[] wrong = {"((((((1)+((1", "!!!!!(1)+!!!!!!!1", "(1-(1-(1-(1-(1-(1-(1", "(((((1)+((1", "!(!(!(1+!1", "-------1"};
        int[] at = {10, 15, 18, 11, 8, 6};
        for (int n = 0; n < wrong.length; n++) {
            Check.due("20: text of " + wrong[n], textOf(wrong[n]), -100 - at[n]);
        }
    }

    /** "a number (1 to 4 digits)". */
    private static void oneToFourDigits() {
        Told x = new Told("20").tell("stone(5, 1, 0)");
        x.odds(0, "0", 0).odds(0, "9", 9).odds(0, "99", 99).odds(0, "999", 999).odds(0, "9999", 1000).odds(0, "9999-9000", 999);
        x.odds(0, "0000", 0).odds(0, "0009", 9).odds(0, "0990", 990).odds(0, "1234/10", 123).odds(0, "0010+0001", 11);
        x.text(0, "00000", -104).text(0, "99999", -104).text(0, "m+12345", -106).text(0, "(12345)", -105).text(0, "1?12345", -106);
        x.text(0, "1;12345", -106).text(0, "12345;1", -104).text(0, "-12345", -105);
    }

    /** "B = S, or S < S, S = S, S > S": one of them, but for another one in brackets, or behind | or &. */
    private static void comparedOnce() {
        Told x = new Told("20").tell("stone(5, 1, 0)");
        for (char a : LIKE.toCharArray()) {
            for (char b : LIKE.toCharArray()) {
                x.text(0, "1" + a + "2" + b + "3", -103).text(0, "(1" + a + "2)" + b + "3", 1).text(0, "1" + a + "(2" + b + "3)", 1);
                x.text(0, "1" + a + "2|2" + b + "3", 1).text(0, "1" + a + b + "2", -102);
            }
        }
    }

    /** "LINE: E, or E ? E". */
    private static void oneConditionALine() {
        Told x = new Told("20").tell("stone(5, 1, 0)");
        x.text(0, "1?2", 1).text(0, "1?2?3", -103).text(0, "1?2;3?4", 1).text(0, "1?2;3?4?5", -107).text(0, "(1?2)", -102);
        x.text(0, "?2", -100).text(0, "1?", -102).text(0, "1?;2", -102).text(0, "1??2", -102).text(0, "1;?2", -102);
    }

    /** "LINES OF A TEXT, one or more, parted by ;". */
    private static void linesParted() {
        Told x = new Told("20").tell("stone(5, 1, 0)");
        x.text(0, ";", -100).text(0, "1;", -102).text(0, ";1", -100).text(0, "1;;2", -102).text(0, "1;2", 1).text(0, "(1;2)", -102);
        x.odds(0, "7" + ";1".repeat(59), 7).odds(0, "0?1" + ";0?1".repeat(29), 0).odds(0, "0?1" + ";0?1".repeat(28) + ";5", 5);
    }

    /** "The first LINE without a first E, or whose first E is not 0, counts; none: 0." */
    private static void whichLineCounts() {
        Told x = new Told("21").tell("stone(5, 5, 0)");
        x.odds(0, "0", 0).odds(0, "0;7", 0).odds(0, "0?7", 0).odds(0, "1?7", 7).odds(0, "-1?7", 7).odds(0, "0?7;8", 8);
        x.odds(0, "1?7;8", 7).odds(0, "1?0;8", 0).odds(0, "0?7;0?8", 0).odds(0, "0?7;2?8;9", 8).odds(0, "6;1?7", 6);
        x.odds(0, "1?2;3?4;5?6;7", 2).odds(0, "0?8", 0).odds(0, "0?8;0?9", 0).text(1, "1;2;3;4;5", 1).odds(0, "0?8", 0);
        x.odds(0, "h=5?1;h=5?2", 1).odds(0, "h=4?1;h=5?2", 2).odds(0, "9999?3;4", 3).odds(0, "1-1?3;4", 4);
    }

    /** "/ and % toward 0, by 0 they give 0". */
    private static void towardZeroAndByZero() {
        Told x = new Told("21").tell("stone(5, 5, 0)");
        x.odds(0, "7/2", 3).odds(0, "-7/2+10", 7).odds(0, "7/-2+10", 7).odds(0, "-7/-2", 3).odds(0, "-1/2+10", 10).odds(0, "8/2", 4);
        x.odds(0, "7%4", 3).odds(0, "-7%4+10", 7).odds(0, "7%-4+10", 13).odds(0, "-7%-4+10", 7).odds(0, "8%4+10", 10);
        x.odds(0, "7/0+5", 5).odds(0, "0/0+5", 5).odds(0, "-7/0+5", 5).odds(0, "7%0+5", 5).odds(0, "0%0+5", 5).odds(0, "-7%0+5", 5);
        x.odds(0, "7/1", 7).odds(0, "7%1+5", 5).odds(0, "7/l+5", 5).odds(0, "7%l+5", 5).odds(0, "1|7/0", 1).odds(0, "0&7/0", 0);
    }

    /** "Ints that wrap": 2147483647 and one more, by products, sums and differences. */
    private static void intsThatWrap() {
        String most = "(4096*4096*64-1+4096*4096*64)", least = "(4096*4096*128)";
        Told x = new Told("21").tell("stone(5, 5, 0)");
        x.odds(0, most + ">0", 1).odds(0, most + "+1<0", 1).odds(0, least + "<0", 1).odds(0, least + "-1>0", 1);
        x.odds(0, least + "-1=" + most, 1).odds(0, "-" + least + "=" + least, 1).odds(0, least + "/-1=" + least, 1);
        x.odds(0, least + "%-1+7", 7).odds(0, least + "*-1<0", 1).odds(0, "4096*4096*256+7", 7).odds(0, most + "*2+9", 7);
        x.odds(0, most + "/9999/9999", 21).odds(0, most, 1000).odds(0, least, 0).odds(0, most + "+1", 0).odds(0, least + "-1", 1000);
    }

    /** "| & < = > ! give 1, 0". */
    private static void oneOrZero() {
        Told x = new Told("21").tell("stone(5, 5, 0)");
        x.odds(0, "7|9", 1).odds(0, "7|0", 1).odds(0, "0|9", 1).odds(0, "0|0", 0).odds(0, "-1|0", 1).odds(0, "0|0|0|5", 1);
        x.odds(0, "7&9", 1).odds(0, "7&0", 0).odds(0, "0&9", 0).odds(0, "0&0", 0).odds(0, "-1&-1", 1).odds(0, "1&2&4&0", 0);
        x.odds(0, "4<5", 1).odds(0, "5<5", 0).odds(0, "6<5", 0).odds(0, "-1<0", 1).odds(0, "4=5", 0).odds(0, "5=5", 1);
        x.odds(0, "6=5", 0).odds(0, "4>5", 0).odds(0, "5>5", 0).odds(0, "6>5", 1).odds(0, "0>-1", 1);
        x.odds(0, "!0", 1).odds(0, "!1", 0).odds(0, "!9", 0).odds(0, "!-1", 0).odds(0, "!!9", 1).odds(0, "!!0", 0);
    }

    /** "E = A { | A }. A = B { & B }. B = S .. S = P { + P, - P }. P = O { * O, / O, % O }": from the left, the tighter first. */
    private static void whatBindsMore() {
        Told x = new Told("21").tell("stone(5, 5, 0)");
        x.odds(0, "9-3-2", 4).odds(0, "9-(3-2)", 8).odds(0, "40/4/2", 5).odds(0, "40/(4/2)", 20).odds(0, "50%20%7", 3).odds(0, "7*5/2", 17);
        x.odds(0, "7/2*5", 15).odds(0, "2+3*4-1", 13).odds(0, "1|0&0", 1).odds(0, "(1|0)&0", 0).odds(0, "0&1|1", 1).odds(0, "2&1=1", 1);
        x.odds(0, "2+1=3", 1).odds(0, "2+(1=3)", 2).odds(0, "-2+5", 3).odds(0, "!0+5", 6).odds(0, "!(0+5)", 0).odds(0, "-(2-9)", 7);
        x.odds(0, "!-0", 1).odds(0, "-!0+3", 2).odds(0, "9--9", 18).odds(0, "9---9", 0).odds(0, "-3*-3", 9).odds(0, "0*5|1", 1);
    }

    /** "TEXTS of USES 0 HEARS .., 1 BACK": each has its own. */
    private static void usesZeroAndOne() {
        Told x = new Told("20").tell("stone(5, 1, 0)").text(1, "7", 1).due("odds(0, 0)", 100).due("odds(0, 1)", 7);
        x.text(0, "8", 1).due("odds(0, 0)", 8).due("odds(0, 1)", 7).text(1, "9", 1).due("odds(0, 0)", 8).due("odds(0, 1)", 9);
    }

    /** A FAULT: the TEXT that the USE had stays, but THE TAPE is empty then. */
    private static void faultsKeepTheText() {
        Told x = new Told("20").tell("stone(5, 1, 0)").text(0, "7", 1).text(0, "8+", -102).due("odds(0, 0)", 7).due("count(4)", 0);
        x.text(1, "8x", -101).due("odds(0, 1)", 0).text(0, "9", 1).due("odds(0, 0)", 9);
    }
}
