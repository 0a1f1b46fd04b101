import java.util.ArrayList;
import java.util.List;

/**
 * Many runs of 512 calls on the class and on Model, a second reading of the document: both must answer alike.
 * Draws come from a fixed rule, so that every run is the same each time. An argument: how many runs, and from which.
 */
public final class AgreementTest {
    private static final int CALLS = 512;
    private static long state;

    private AgreementTest() {
    }

    private static int below(int n) {
        state = state * 6364136223846793005L + 1442695040888963407L;
        return (int) ((state >>> 33) % n);
    }

    private static int from(int least, int most) {
        return least + below(most - least + 1);
    }

    private static boolean oneIn(int n) {
        return below(n) == 0;
    }

    /** One run: what it favours, and the two that are compared. */
    private static final class Run {
        final TakenBack x = new TakenBack();
        final Model m = new Model();
        final List<String> calls = new ArrayList<>();
        final int firsts = from(1, 5), heads = from(0, 5), rules = from(0, 4), wrongs = from(10, 60);
        final int[] weights = {4, 8, 2, 6, 4, 4, 6, 1, 1, 4, 6, 4, 4, 4, 6, 1, 1};
        final int names = oneIn(2) ? 5 : 20, opens = oneIn(3) ? 9 : 4, rows = oneIn(2) ? 6 : 60;
        boolean apart;

        Run() {
            for (int n = 0; n < weights.length; n++) {
                weights[n] *= oneIn(4) ? 0 : oneIn(5) ? 12 : 1;
            }
            weights[3]++;
        }

        void same(String call, long got, long want) {
            calls.add(call + " -> " + want);
            if (got != want && !apart) {
                apart = true;
                calls.add("    the class answered " + got);
            }
        }

        boolean wrong() {
            return oneIn(wrongs);
        }

        int stoneNumber() {
            return wrong() ? from(-2, 66) : Math.max(0, below(Math.max(1, m.count(0))));
        }

        int lineNumber() {
            return wrong() ? from(-1, 201) : below(Math.max(1, m.count(1)));
        }

        int stoneOf(int kind) {
            int s = stoneNumber();
            for (int k = 0; k < 40 && !wrong(); k++) {
                s = stoneNumber();
                if (m.ofStone(s, 0) == kind || kind == 5 && m.ofStone(s, 0) == 6) {
                    return s;
                }
            }
            return s;
        }

        int place() {
            return wrong() ? from(-1, 6) : below(3 + below(4));
        }

        void stone() {
            int[] pick = new int[firsts + heads + rules + 3];
            int k = 0;
            for (int n = 0; n < firsts; n++) pick[k++] = 1;
            for (int n = 0; n < heads; n++) pick[k++] = 5;
            for (int n = 0; n < rules; n++) pick[k++] = 3;
            pick[k++] = 0;
            pick[k++] = 2;
            pick[k] = 4;
            int kind = wrong() ? from(-1, 7) : pick[below(pick.length)];
            int a = kind == 5 ? from(1, 9) : oneIn(3) ? from(-999, 999) : from(-20, 20);
            int b = kind == 1 ? oneIn(3) ? from(1, 12) : from(1, 999) : oneIn(3) ? from(0, 799) : 100 * below(2) + below(100);
            if (wrong()) a = from(-1001, 1001);
            if (wrong()) b = from(-1, 1001);
            same("stone(" + kind + ", " + a + ", " + b + ")", x.stone(kind, a, b), m.stone(kind, a, b));
        }

        void line() {
            int s = stoneNumber(), on = oneIn(2) ? stoneNumber() : Math.max(0, s - 1 - below(6));
            for (int k = 0; k < 9 && (s == 0 || m.ofStone(s, 0) == 1); k++) s = stoneNumber();
            for (int k = 0; k < 9 && (on >= s || tied(s, on) && !wrong()); k++) on = stoneNumber();
            int sw = 100 * (oneIn(3) ? below(3) : 0) + (oneIn(3) ? from(1, 20) : from(30, 99));
            if (wrong()) sw = from(-120, 320);
            same("line(" + s + ", " + on + ", " + sw + ")", x.line(s, on, sw), m.line(s, on, sw));
        }

        private boolean tied(int s, int on) {
            for (int l = 0; l < m.count(1); l++) {
                if (m.ofLine(l, 0) == s && m.ofLine(l, 1) == on) return true;
            }
            return false;
        }

        void citings() {
            int s = stoneNumber(), p = place(), i = wrong() ? from(-3, 70) : 3 * below(4), n = wrong() ? from(-1, 23) : from(1, 6);
            if (oneIn(40)) i = Integer.MAX_VALUE - below(4);
            same("citings(" + s + ", " + p + ", " + i + ", " + n + ")", x.citings(s, p, i, n), m.citings(s, p, i, n));
        }

        void look() {
            int s = stoneNumber(), w;
            switch (below(5)) {
                case 0, 1 -> {
                    w = wrong() ? from(-1, 10) : below(9);
                    same("ofStone(" + s + ", " + w + ")", x.ofStone(s, w), m.ofStone(s, w));
                }
                case 2 -> same("worth(" + s + ")", x.worth(s), m.worth(s));
                case 3 -> {
                    int r = stoneOf(3);
                    same("says(" + r + ")", x.says(r), m.says(r));
                }
                default -> {
                    int l = lineNumber();
                    w = wrong() ? from(-1, 6) : below(5);
                    same("ofLine(" + l + ", " + w + ")", x.ofLine(l, w), m.ofLine(l, w));
                }
            }
        }

        void change() {
            int l = lineNumber(), w = wrong() ? from(-1, 2) : below(2), v = w == 0 ? from(1, 99) : below(3);
            if (w == 0 && oneIn(4)) v = m.ofLine(l, 2);
            if (wrong()) v = from(-1, 101);
            same("change(" + l + ", " + w + ", " + v + ")", x.change(l, w, v), m.change(l, w, v));
        }

        void take() {
            int s = oneIn(2) ? stoneOf(1) : stoneNumber(), way = wrong() ? from(-1, 3) : below(3), p = from(1, 9);
            if (wrong()) p = from(-1, 11);
            if (oneIn(3)) {
                same("restore(" + s + ")", x.restore(s), m.restore(s));
            } else {
                same("take(" + s + ", " + way + ", " + p + ")", x.take(s, way, p), m.take(s, way, p));
            }
        }

        void thought() {
            int s = stoneNumber(), r = stoneOf(3), i = oneIn(2) ? -1 : from(-2, 5);
            switch (below(5)) {
                case 0 -> {
                    int o = stoneNumber(), w = wrong() ? from(-1, 4) : below(4);
                    same("with(" + s + ", " + o + ", " + w + ")", x.with(s, o, w), m.with(s, o, w));
                }
                case 1 -> same("falls(" + s + ", " + i + ")", x.falls(s, i), m.falls(s, i));
                case 2 -> same("turned(" + s + ", " + i + ")", x.turned(s, i), m.turned(s, i));
                case 3 -> same("hangs(" + r + ")", x.hangs(r), m.hangs(r));
                default -> same("hung(" + r + ")", x.hung(r), m.hung(r));
            }
        }

        void feed(String t) {
            for (int i = 0; i < t.length() && calls.size() < CALLS; ) {
                int n = Math.min(from(1, 4), t.length() - i), v = n == 4 ? 0 : below(9) << 8 * n;
                for (int k = 0; k < n; k++) v |= t.charAt(i + k) << 8 * k;
                i += n;
                same("feed(" + n + ", " + v + ")", x.feed(n, v), m.feed(n, v));
            }
        }

        void text() {
            StringBuilder t = new StringBuilder();
            int lines = from(1, 3);
            for (int k = 0; k < lines; k++) {
                t.append(k == 0 ? "" : ";").append(either(from(1, opens)));
                if (oneIn(2)) t.append('?').append(either(from(1, 3)));
            }
            if (oneIn(3)) spoil(t);
            feed(t.length() > 130 ? t.substring(0, 130) : t.toString());
            int use = wrong() ? from(-1, 2) : below(2);
            same("text(" + use + ")", x.text(use), m.text(use));
        }

        private void spoil(StringBuilder t) {
            String signs = "(!-)0m;?|<+*x19=\200";
            for (int k = from(1, 2); k > 0; k--) {
                int at = below(t.length() + 1);
                switch (below(3)) {
                    case 0 -> t.insert(at, signs.charAt(below(signs.length())));
                    case 1 -> t.setLength(at);
                    default -> t.replace(at, Math.min(t.length(), at + 1), "" + signs.charAt(below(signs.length())));
                }
            }
        }

        private String either(int depth) {
            StringBuilder t = new StringBuilder(operand(depth));
            String signs = "|&+-*/%++**<=>";
            boolean compared = false;
            for (int k = below(3); k > 0; k--) {
                int at = below(compared ? signs.length() - 3 : signs.length());
                compared |= at >= signs.length() - 3;
                t.append(signs.charAt(at)).append(operand(depth - 1));
            }
            return t.toString();
        }

        private String operand(int depth) {
            String names = "mwsnchl";
            if (depth <= 0 || oneIn(3)) return "" + names.charAt(below(7));
            return switch (below(7)) {
                case 0 -> "" + from(0, 9999);
                case 1 -> "" + from(0, 1000);
                case 2 -> "" + from(0, 12);
                case 3 -> "(" + either(depth - 1) + ")";
                case 4 -> "!" + operand(depth - 1);
                case 5 -> "-" + operand(depth - 1);
                default -> "" + names.charAt(below(7));
            };
        }

        void month() {
            int n = wrong() ? from(-1, 26) : oneIn(4) ? from(1, 24) : from(1, 3);
            same("months(" + n + ")", x.months(n), m.months(n));
        }

        void head() {
            int s = stoneOf(5), u = wrong() ? from(-1, 2) : below(2);
            switch (below(4)) {
                case 0, 1 -> same("odds(" + s + ", " + u + ")", x.odds(s, u), m.odds(s, u));
                case 2 -> same("letter(" + s + ")", x.letter(s), m.letter(s));
                default -> {
                    int h = wrong() ? from(-1, 62) : from(0, oneIn(2) ? 60 : 12), w = wrong() ? from(-1, 3) : below(3);
                    same("tell(" + h + ", " + w + ")", x.tell(h, w), m.tell(h, w));
                }
            }
        }

        void copy() {
            switch (below(4)) {
                case 0 -> {
                    int s = stoneNumber(), r = wrong() ? from(-1, 1001) : from(0, 999);
                    same("copy(" + s + ", " + r + ")", x.copy(s, r), m.copy(s, r));
                }
                case 1 -> {
                    int c = wrong() ? from(-1, 61) : below(Math.max(1, m.count(2))), is = wrong() ? from(-1, 2) : below(2);
                    same("mark(" + c + ", " + is + ")", x.mark(c, is), m.mark(c, is));
                }
                case 2 -> {
                    int i = from(-3, 6);
                    same("lacks(" + i + ")", x.lacks(i), m.lacks(i));
                }
                default -> {
                    int l = wrong() ? from(-1, 9) : below(oneIn(3) ? 8 : 2);
                    same("land(" + l + ")", x.land(l), m.land(l));
                }
            }
        }

        void name() {
            int s = oneIn(2) ? stoneOf(1) : stoneNumber(), n = wrong() ? from(-1, 21) : below(names), i = oneIn(3) ? -1 : from(-2, 6);
            switch (below(6)) {
                case 0, 1 -> {
                    int v = wrong() ? from(-1, 11) : from(1, 9);
                    same("name(" + s + ", " + n + ", " + v + ")", x.name(s, n, v), m.name(s, n, v));
                }
                case 2 -> same("share(" + s + ", " + n + ")", x.share(s, n), m.share(s, n));
                case 3 -> same("hands(" + n + ", " + i + ")", x.hands(n, i), m.hands(n, i));
                case 4 -> same("fair(" + n + ")", x.fair(n), m.fair(n));
                default -> {
                    int w = wrong() ? from(-1, 5) : below(4);
                    same("span(" + s + ", " + w + ")", x.span(s, w), m.span(s, w));
                }
            }
        }

        void back() {
            if (oneIn(2)) {
                same("undo()", x.undo(), m.undo());
            } else {
                same("redo()", x.redo(), m.redo());
            }
        }

        void act() {
            int s = stoneNumber(), a = wrong() ? from(-1, 5) : below(4), v = oneIn(4) ? (int) state : from(-30, 30);
            if (oneIn(2)) {
                same("act(" + s + ", " + a + ", " + v + ")", x.act(s, a, v), m.act(s, a, v));
            } else {
                int i = from(-1, 11);
                same("trace(" + i + ")", x.trace(i), m.trace(i));
            }
        }

        void place1() {
            int p = place(), q = place(), i = wrong() ? from(-2, 62) : below(rows), j = wrong() ? from(-2, 62) : below(rows);
            switch (below(9)) {
                case 0 -> {
                    int s = oneIn(5) ? -1 : stoneNumber();
                    same("keep(" + p + ", " + s + ")", x.keep(p, s), m.keep(p, s));
                }
                case 1, 2 -> {
                    int sort = wrong() ? from(-1, 6) : oneIn(4) ? 0 : from(oneIn(2) ? 3 : 0, 4), n = wrong() ? from(-2, 63) : from(rows / 2, rows);
                    same("row(" + p + ", " + sort + ", " + n + ")", x.row(p, sort, n), m.row(p, sort, n));
                }
                case 3, 4 -> {
                    long v = oneIn(4) ? state : from(0, 60);
                    same("put(" + p + ", " + i + ", " + v + ")", x.put(p, i, v), m.put(p, i, v));
                }
                case 5 -> same("element(" + p + ", " + i + ")", x.element(p, i), m.element(p, i));
                case 6 -> {
                    int n = wrong() ? from(-2, 62) : below(8);
                    if (oneIn(40)) n = Integer.MAX_VALUE - below(3);
                    same("shift(" + p + ", " + i + ", " + q + ", " + j + ", " + n + ")", x.shift(p, i, q, j, n),
                            m.shift(p, i, q, j, n));
                }
                case 7 -> {
                    int k = wrong() ? from(-1, 8) : below(7);
                    same("taken(" + p + ", " + k + ")", x.taken(p, k), m.taken(p, k));
                }
                default -> {
                    int w = wrong() ? from(-1, 8) : below(7);
                    same("count(" + w + ")", x.count(w), m.count(w));
                }
            }
        }

        /** A row of bytes that is cited from: threes that are mostly lines. */
        void cite() {
            int p = below(6), n = from(0, 12), s = stoneNumber();
            same("row(" + p + ", 0, " + n + ")", x.row(p, 0, n), m.row(p, 0, n));
            for (int i = 0; i < n && calls.size() < CALLS; i++) {
                long v = i % 3 == 0 ? from(-1, Math.max(1, s)) : i % 3 == 1 ? from(wrong() ? -1 : 1, wrong() ? 140 : 99)
                        : from(0, wrong() ? 4 : 2);
                same("put(" + p + ", " + i + ", " + v + ")", x.put(p, i, v), m.put(p, i, v));
            }
            int many = from(1, 5), at = oneIn(5) ? below(5) : 0;
            same("citings(" + s + ", " + p + ", " + at + ", " + many + ")", x.citings(s, p, at, many),
                    m.citings(s, p, at, many));
        }

        /** What comes next: a run favours some calls and leaves others out. */
        void any() {
            int sum = 0;
            for (int w : weights) sum += w;
            int at = below(sum), k = 0;
            while (at >= weights[k]) at -= weights[k++];
            switch (k) {
                case 0 -> stone();
                case 1 -> line();
                case 2 -> citings();
                case 3 -> look();
                case 4 -> change();
                case 5 -> take();
                case 6 -> thought();
                case 7 -> text();
                case 8 -> month();
                case 9 -> head();
                case 10 -> copy();
                case 11 -> name();
                case 12 -> back();
                case 13 -> act();
                case 14 -> place1();
                case 15 -> cite();
                default -> {
                    int v = (int) state;
                    same("seed(" + v + ")", x.seed(v), m.seed(v));
                }
            }
        }

        void all() {
            int stones = oneIn(4) ? from(0, 4) : from(6, 64), lines = from(0, oneIn(3) ? 205 : 2 * stones + 10);
            if (oneIn(6)) lines = 230;
            for (int k = 0; k < stones; k++) stone();
            for (int k = 0; k < lines; k++) line();
            for (int k = below(6); k > 0; k--) take();
            for (int tries = 0; calls.size() < CALLS && tries < 20 * CALLS; tries++) any();
        }
    }

    public static void main(String[] args) {
        int runs = args.length > 0 ? Integer.parseInt(args[0]) : 1500, first = args.length > 1 ? Integer.parseInt(args[1]) : 1;
        int apart = 0;
        for (int n = first; n < first + runs && apart < 3; n++) {
            state = n * 0x9E3779B97F4A7C15L;
            Run run = new Run();
            run.all();
            if (run.apart) {
                apart++;
                System.out.println("run " + n + " answered otherwise than the model:");
                for (String call : run.calls) {
                    System.out.println("  " + call);
                    if (call.startsWith("    ")) break;
                }
            }
        }
        System.out.println(apart == 0 ? "all answers are as due" : apart + " runs are not as due");
        if (apart != 0) {
            System.exit(1);
        }
    }
}
