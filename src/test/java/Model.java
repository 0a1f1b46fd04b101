import java.util.ArrayDeque;
import java.util.ArrayList;
import java.util.Arrays;
import java.util.List;
import java.util.Set;
import java.util.TreeMap;
import java.util.TreeSet;

/**
 * The document read a second time, by other means than the class: sets and lists in place of bits, each sum worked
 * from the top down, acts by Java's own inheritance, texts worked as they stand, and a FAULT sought by trying
 * how a text could go on. It is slow and only for comparing.
 */
final class Model {
    static final int BAD = -1, NOT = -2, FULL = -3, STATE = -5, VOID = -2000000000;

    static final class S {
        int n, kind, month, result, rows, bar, land, cost, hours;
        Integer since;
        int way = -1, p;
        int heard;
        boolean letter;
        List<L> lines = new ArrayList<>();
        TreeMap<Integer, Integer> names = new TreeMap<>();
    }

    static final class L {
        S from, on;
        int weight, sense;
        boolean dropped;
    }

    static final class C {
        S of;
        int reach;
        Integer mark;
    }

    /** A change: how it is set to the older and to the newer value. */
    record Ch(Runnable back, Runnable on) {
    }

    private final List<S> stones = new ArrayList<>();
    private final List<L> lines = new ArrayList<>();
    private final List<C> copies = new ArrayList<>();
    private final ArrayDeque<Ch> done = new ArrayDeque<>(), undone = new ArrayDeque<>();
    private int now, seed;
    private final List<Integer> tape = new ArrayList<>();
    private final String[] texts = new String[2];
    private final List<Integer> trace = new ArrayList<>();
    private final Object[] places = new Object[6];

    private S get(int n) {
        return n < 0 || n >= stones.size() ? null : stones.get(n);
    }

    // ---- who stands on whom

    private List<L> live(S s) {
        return s.lines.stream().filter(l -> !l.dropped).toList();
    }

    private Set<Integer> under(S s) {
        Set<Integer> found = new TreeSet<>();
        for (L l : live(s)) {
            found.add(l.on.n);
            found.addAll(under(l.on, found));
        }
        return found;
    }

    private Set<Integer> under(S s, Set<Integer> known) {
        Set<Integer> found = new TreeSet<>();
        for (L l : live(s)) {
            if (!known.contains(l.on.n) && found.add(l.on.n)) {
                Set<Integer> both = new TreeSet<>(known);
                both.addAll(found);
                found.addAll(under(l.on, both));
            }
        }
        return found;
    }

    private Set<Integer> over(S s) {
        Set<Integer> found = new TreeSet<>();
        for (S t : stones) {
            if (t.n > s.n && under(t).contains(s.n)) {
                found.add(t.n);
            }
        }
        return found;
    }

    private boolean still(S s) {
        return s.kind == 5 && s.heard == 0 && under(s).stream().anyMatch(n -> stones.get(n).since != null);
    }

    private int kind(S s) {
        return still(s) ? 6 : s.kind;
    }

    // ---- sums

    /** Counts and worth of one stone; a worth of null is none. */
    private record Sum(long counts, Long worth) {
    }

    private Sum sum(S s, Set<Integer> lies, Set<Integer> standing, TreeMap<Integer, Sum> known) {
        if (known.containsKey(s.n)) {
            return known.get(s.n);
        }
        long counts;
        Long worth = null;
        if (s.kind == 1) {
            counts = s.rows * 20L;
            worth = s.result * 1000L;
        } else {
            java.math.BigInteger parts = java.math.BigInteger.ZERO, all = parts;
            for (L l : live(s)) {
                Sum on = sum(l.on, lies, standing, known);
                long part = on.counts * l.weight / 100;
                parts = parts.add(java.math.BigInteger.valueOf(part));
                if (part > 0) {
                    long w = l.sense == 1 ? -on.worth : on.worth;
                    all = all.add(java.math.BigInteger.valueOf(part).multiply(java.math.BigInteger.valueOf(w)));
                }
            }
            if (parts.signum() > 0) {
                java.math.BigInteger[] q = all.divideAndRemainder(parts);
                worth = q[0].longValueExact() - (q[1].signum() < 0 ? 1 : 0);
            }
            counts = Math.min(1000000000L, parts.longValueExact());
        }
        if (lies.contains(s.n)) {
            counts = 0;
        } else if (!standing.contains(s.n) && s.since != null) {
            counts = s.way == 0 ? counts * (10 - s.p) / 10 : s.way == 1 ? 0 : counts / 2;
        }
        Sum made = new Sum(counts, worth);
        known.put(s.n, made);
        return made;
    }

    private Sum sum(S s, Set<Integer> lies, Set<Integer> standing) {
        return sum(s, lies, standing, new TreeMap<>());
    }

    private boolean yes(S s, Set<Integer> lies) {
        Sum m = sum(s, lies, Set.of());
        return m.counts > 0 && m.worth >= 1000L * s.bar;
    }

    // ---- the face

    int stone(int kind, int a, int b) {
        if (kind < 0 || kind > 5) return BAD;
        if ((kind == 1 || kind == 3) && (a < -999 || a > 999)) return BAD;
        if (kind == 1 && (b < 1 || b > 999)) return BAD;
        if (kind == 3 && (b < 0 || b / 100 > 7)) return BAD;
        if (kind == 5 && (a < 1 || a > 9)) return BAD;
        if (stones.size() == 64) return FULL;
        S s = new S();
        s.n = stones.size();
        s.kind = kind;
        s.month = now;
        if (kind == 1) {
            s.result = a;
            s.rows = b;
        } else if (kind == 3) {
            s.bar = a;
            s.land = b / 100;
            s.cost = b % 100;
        } else if (kind == 5) {
            s.hours = a;
        }
        stones.add(s);
        return s.n;
    }

    private boolean mayBe(S s, S on) {
        return s != null && on != null && s.kind != 1 && on.n < s.n && s.lines.stream().noneMatch(l -> l.on == on);
    }

    private void draw(S s, S on, int weight, int sense) {
        L l = new L();
        l.from = s;
        l.on = on;
        l.weight = weight;
        l.sense = sense;
        s.lines.add(l);
        lines.add(l);
    }

    int line(int stone, int on, int sw) {
        if (!mayBe(get(stone), get(on))) return BAD;
        if (sw < 1 || sw > 299 || sw % 100 == 0) return BAD;
        if (lines.size() == 200) return FULL;
        draw(get(stone), get(on), sw % 100, sw / 100);
        return lines.size() - 1;
    }

    int citings(int stone, int place, int i, int n) {
        S s = get(stone);
        if (s == null || s.kind == 1 || place < 0 || place > 5 || n < 1 || n > 20) return BAD;
        if (places[place] != null && !(places[place] instanceof byte[])) return -12;
        if (places[place] == null || i < 0) return 0;
        byte[] row = (byte[]) places[place];
        int came = 0;
        for (long at = i; came < n; at += 3) {
            if (at >= row.length || !mayBe(s, get(row[(int) at])) || lines.size() == 200) break;
            boolean whole = at + 2 < row.length;
            int w = whole ? row[(int) at + 1] : 0, sense = whole ? row[(int) at + 2] : 0;
            boolean good = whole && w >= 1 && w <= 99 && sense >= 0 && sense <= 2;
            draw(s, get(row[(int) at]), good ? w : 1, good ? sense : 2);
            came++;
            if (!good) break;
        }
        return came;
    }

    private int far(S s) {
        int most = 0;
        for (L l : lines) {
            if (l.on == s && !l.dropped) {
                most = Math.max(most, 1 + far(l.from));
            }
        }
        return most;
    }

    int ofStone(int stone, int what) {
        S s = get(stone);
        if (s == null) return BAD;
        return switch (what) {
            case 0 -> kind(s);
            case 1 -> s.month;
            case 2 -> (int) sum(s, Set.of(), Set.of()).counts;
            case 3 -> s.lines.size();
            case 4 -> s.since == null ? -1 : s.since;
            case 5 -> s.way;
            case 6 -> s.heard;
            case 7 -> far(s);
            case 8 -> over(s).size();
            default -> BAD;
        };
    }

    private int worthOf(Sum m) {
        return m.worth == null ? VOID : (int) (long) m.worth;
    }

    int worth(int stone) {
        return get(stone) == null ? VOID : worthOf(sum(get(stone), Set.of(), Set.of()));
    }

    int says(int stone) {
        S s = get(stone);
        return s == null || s.kind != 3 ? BAD : yes(s, Set.of()) ? 1 : 0;
    }

    int ofLine(int line, int what) {
        if (line < 0 || line >= lines.size() || what < 0 || what > 4) return BAD;
        L l = lines.get(line);
        return new int[] {l.from.n, l.on.n, l.weight, l.sense, l.dropped ? 1 : 0}[what];
    }

    private void make(Ch c) {
        c.on.run();
        done.addLast(c);
        undone.clear();
        if (done.size() > 40) done.removeFirst();
    }

    int change(int line, int what, int v) {
        if (line < 0 || line >= lines.size()) return BAD;
        L l = lines.get(line);
        if (what == 0 && v >= 1 && v <= 99) {
            int was = l.weight;
            if (was != v) make(new Ch(() -> l.weight = was, () -> l.weight = v));
            return was;
        }
        if (what == 1 && v >= 0 && v <= 2) {
            int was = l.sense;
            if (was != v) make(new Ch(() -> l.sense = was, () -> l.sense = v));
            return was;
        }
        return BAD;
    }

    int take(int stone, int way, int p) {
        S s = get(stone);
        if (s == null || way < 0 || way > 2 || way == 0 && (p < 1 || p > 9)) return BAD;
        s.since = now;
        s.way = way;
        s.p = p;
        return now;
    }

    int restore(int stone) {
        S s = get(stone);
        if (s == null) return BAD;
        if (s.since == null) return NOT;
        int was = s.since;
        s.since = null;
        s.way = -1;
        return was;
    }

    int with(int stone, int other, int what) {
        if (get(stone) == null || get(other) == null || what < 0 || what > 3) return VOID;
        Set<Integer> it = Set.of(stone);
        Sum m = sum(get(other), what < 2 ? it : Set.of(), what < 2 ? Set.of() : it);
        return what % 2 == 0 ? (int) m.counts : worthOf(m);
    }

    private static int pick(List<Integer> of, int i) {
        return i == -1 ? of.size() : i < 0 || i >= of.size() ? BAD : of.get(i);
    }

    int falls(int stone, int i) {
        if (get(stone) == null) return BAD;
        TreeMap<Integer, Sum> a = new TreeMap<>(), b = new TreeMap<>();
        return pick(stones.stream().filter(s -> sum(s, Set.of(), Set.of(), a).counts > 0
                && sum(s, Set.of(stone), Set.of(), b).counts == 0).map(s -> s.n).toList(), i);
    }

    int turned(int stone, int i) {
        if (get(stone) == null) return BAD;
        return pick(stones.stream().filter(s -> s.kind == 3 && yes(s, Set.of()) != yes(s, Set.of(stone)))
                .map(s -> s.n).toList(), i);
    }

    private Set<Integer> least(S s) {
        List<Integer> firsts = under(s).stream().filter(n -> stones.get(n).kind == 1
                && stones.get(n).since == null).limit(8).toList();
        Set<Integer> best = null;
        for (int set = 1; set < 1 << firsts.size(); set++) {
            Set<Integer> lies = new TreeSet<>();
            for (int k = 0; k < firsts.size(); k++) {
                if ((set >> k & 1) == 1) lies.add(firsts.get(k));
            }
            if ((best == null || lies.size() < best.size()) && yes(s, lies) != yes(s, Set.of())) best = lies;
        }
        return best;
    }

    int hangs(int stone) {
        S s = get(stone);
        if (s == null || s.kind != 3) return BAD;
        Set<Integer> set = least(s);
        return set == null ? NOT : set.size();
    }

    long hung(int stone) {
        S s = get(stone);
        if (s == null || s.kind != 3) return BAD;
        Set<Integer> set = least(s);
        return set == null ? NOT : set.stream().mapToLong(n -> 1L << n).sum();
    }

    int seed(int v) {
        int was = seed;
        seed = v;
        return was;
    }

    int months(int n) {
        if (n < 1 || n > 24 || now + n > 599) return BAD;
        int heard = 0;
        for (int k = 0; k < n; k++) {
            now++;
            for (S s : stones) {
                if (still(s) && chance(s.n, 0) < oddsFor(s, 0)) {
                    boolean more = chance(s.n, 1) < oddsFor(s, 1);
                    s.heard = more ? 2 : 1;
                    heard++;
                    for (L l : live(s)) {
                        if (l.on.since != null) {
                            if (more) l.weight = 99;
                            else l.dropped = true;
                        }
                    }
                }
            }
        }
        return heard;
    }

    private int chance(int stone, int use) {
        int z = seed * 69069 + 7919 * stone + 104729 * now + 13 * use;
        z = (z ^ z >>> 15) * 1274126177;
        return (z >>> 7) % 1000;
    }

    int feed(int n, int v) {
        if (n < 1 || n > 4) return BAD;
        if (tape.size() + n > 120) return FULL;
        for (int k = 0; k < n; k++) tape.add(v >> 8 * k & 0xff);
        return tape.size();
    }

    int text(int use) {
        if (use != 0 && use != 1) return BAD;
        StringBuilder t = new StringBuilder();
        for (int b : tape) t.append((char) b);
        tape.clear();
        String text = t.toString();
        if (Wording.isText(text)) {
            texts[use] = text;
            return 1;
        }
        int good = 0;
        while (good < text.length() && Wording.goesOn(text.substring(0, good + 1))) good++;
        return -100 - good;
    }

    private int oddsFor(S s, int use) {
        if (texts[use] == null) return use == 0 ? 100 : 0;
        Set<Integer> under = under(s);
        List<L> own = live(s);
        int[] v = new int[128];
        for (int n : under) {
            S on = stones.get(n);
            if (on.since != null) {
                v['m'] = Math.max(v['m'], now - on.since);
                v['c'] += copies.stream().filter(c -> c.of == on && c.mark == null).count();
            }
        }
        v['w'] = own.stream().mapToInt(l -> l.weight).max().orElse(0);
        v['s'] = own.stream().mapToInt(l -> l.sense).min().orElse(0);
        v['n'] = own.size();
        v['h'] = s.hours;
        v['l'] = s.letter ? 1 : 0;
        int odds = Wording.value(texts[use], v);
        return odds < 0 ? 0 : odds > 1000 ? 1000 : odds;
    }

    int odds(int stone, int use) {
        S s = get(stone);
        return s == null || s.kind != 5 || use < 0 || use > 1 ? BAD : oddsFor(s, use);
    }

    int letter(int stone) {
        S s = get(stone);
        if (s == null || s.kind != 5) return BAD;
        int answer = s.letter ? 0 : 1;
        s.letter = true;
        return answer;
    }

    int copy(int stone, int reach) {
        if (get(stone) == null || reach < 0 || reach > 999) return BAD;
        if (copies.size() == 60) return FULL;
        C c = new C();
        c.of = get(stone);
        c.reach = reach;
        copies.add(c);
        return copies.size() - 1;
    }

    int mark(int copy, int is) {
        if (copy < 0 || copy >= copies.size() || is < 0 || is > 1) return VOID;
        C c = copies.get(copy);
        Integer was = c.mark, will = is == 1 ? (Integer) now : null;
        if (!java.util.Objects.equals(was, will)) make(new Ch(() -> c.mark = was, () -> c.mark = will));
        return was == null ? -1 : was;
    }

    int lacks(int i) {
        List<Integer> of = new ArrayList<>();
        int reach = 0;
        for (int n = 0; n < copies.size(); n++) {
            if (copies.get(n).of.since != null && copies.get(n).mark == null) {
                of.add(n);
                reach += copies.get(n).reach;
            }
        }
        return i == -2 ? reach : pick(of, i);
    }

    int tell(int h, int what) {
        if (h < 0 || h > 60 || what < 0 || what > 2) return BAD;
        List<S> heads = stones.stream().filter(this::still).limit(10).toList();
        List<Set<Integer>> told = heads.stream().map(s -> {
            Set<Integer> t = over(s);
            t.add(s.n);
            return t;
        }).toList();
        int[] best = {0, 0, 0};
        for (int set = 0; set < 1 << heads.size(); set++) {
            int hours = 0;
            Set<Integer> all = new TreeSet<>();
            for (int k = 0; k < heads.size(); k++) {
                if ((set >> k & 1) == 1) {
                    hours += heads.get(k).hours;
                    all.addAll(told.get(k));
                }
            }
            if (hours <= h && (all.size() > best[0] || all.size() == best[0] && hours < best[1])) {
                best = new int[] {all.size(), hours, set};
            }
        }
        return best[what];
    }

    int land(int land) {
        if (land < 0 || land > 7) return BAD;
        Set<Integer> lies = new TreeSet<>();
        for (S s : stones) {
            if (s.kind == 1 && s.since != null) lies.add(s.n);
        }
        int cost = 0;
        for (S s : stones) {
            if (s.kind == 3 && s.land == land && yes(s, Set.of()) != yes(s, lies)) {
                int first = under(s).stream().map(stones::get).filter(t -> t.since != null)
                        .mapToInt(t -> t.since).min().orElse(now);
                cost += (now - Math.max(first, s.month)) * s.cost;
            }
        }
        return cost;
    }

    int name(int stone, int name, int share) {
        if (get(stone) == null || name < 0 || name > 19 || share < 1 || share > 9) return BAD;
        get(stone).names.put(name, share);
        return get(stone).names.size();
    }

    private int part(S s, int name) {
        return s.names.get(name) * 1000 / s.names.values().stream().mapToInt(v -> v).sum();
    }

    int share(int stone, int name) {
        S s = get(stone);
        return s == null || !s.names.containsKey(name) ? BAD : part(s, name);
    }

    int hands(int name, int i) {
        if (name < 0 || name > 19) return BAD;
        Set<Integer> with = new TreeSet<>(List.of(name));
        for (S s : stones) {
            if (s.names.containsKey(name)) with.addAll(s.names.keySet());
        }
        List<S> of = new ArrayList<>(stones.stream().filter(s -> s.kind == 1 && s.since == null
                && s.names.keySet().stream().anyMatch(with::contains)).toList());
        of.sort(java.util.Comparator.comparing((S s) -> -over(s).size()).thenComparing(s -> s.n));
        return pick(of.stream().map(s -> s.n).toList(), i);
    }

    int fair(int name) {
        if (name < 0 || name > 19) return BAD;
        return stones.stream().filter(s -> s.since != null && s.names.containsKey(name))
                .mapToInt(s -> part(s, name)).sum();
    }

    int span(int stone, int what) {
        if (get(stone) == null || what < 0 || what > 3) return BAD;
        int[] by = new int[3];
        for (L l : lines) {
            if (l.on.n == stone && !l.dropped) by[l.sense]++;
        }
        return new int[] {by[0], by[0] + by[2], by[2], by[1]}[what];
    }

    int undo() {
        if (done.isEmpty()) return STATE;
        Ch c = done.removeLast();
        c.back.run();
        undone.addLast(c);
        return done.size();
    }

    int redo() {
        if (undone.isEmpty()) return STATE;
        Ch c = undone.removeLast();
        c.on.run();
        done.addLast(c);
        return undone.size();
    }

    int act(int stone, int act, int x) {
        trace.clear();
        S s = get(stone);
        if (s == null || act < 0 || act > 3) return 0;
        int n = s.n, c = live(s).size();
        Bodies.Stone b = switch (kind(s)) {
            case 1 -> new Bodies.First(n, c, trace);
            case 2 -> new Bodies.Summed(n, c, trace);
            case 3 -> new Bodies.Ruled(n, c, trace);
            case 4 -> new Bodies.Said(n, c, trace);
            case 5 -> new Bodies.Held(n, c, trace);
            case 6 -> new Bodies.Still(n, c, trace);
            default -> new Bodies.Stone(n, c, trace);
        };
        return switch (act) {
            case 0 -> b.stands(x);
            case 1 -> b.falls(x);
            case 2 -> b.hears(x);
            default -> b.tells(x);
        };
    }

    int trace(int i) {
        return i < 0 || i >= Math.min(24, trace.size()) ? BAD : trace.get(i);
    }

    int keep(int place, int stone) {
        if (place < 0 || place > 5 || stone != -1 && get(stone) == null) return BAD;
        places[place] = get(stone);
        return 1;
    }

    int row(int place, int sort, int n) {
        if (place < 0 || place > 5 || sort < 0 || sort > 4 || n > 60) return BAD;
        if (n < 0) return -14;
        places[place] = switch (sort) {
            case 0 -> new byte[n];
            case 1 -> new short[n];
            case 2 -> new int[n];
            case 3 -> new long[n];
            default -> new boolean[n];
        };
        return 1;
    }

    private int refusal(int place, int i) {
        if (place < 0 || place > 5) return BAD;
        if (places[place] == null) return -11;
        if (places[place] instanceof S) return -12;
        return i < 0 || i >= java.lang.reflect.Array.getLength(places[place]) ? -13 : 0;
    }

    int put(int place, int i, long v) {
        int r = refusal(place, i);
        if (r != 0) return r;
        Object row = places[place];
        if (row instanceof byte[] b) b[i] = (byte) v;
        if (row instanceof short[] b) b[i] = (short) v;
        if (row instanceof int[] b) b[i] = (int) v;
        if (row instanceof long[] b) b[i] = v;
        if (row instanceof boolean[] b) b[i] = v != 0;
        return 1;
    }

    long element(int place, int i) {
        if (refusal(place, i) != 0) return Long.MIN_VALUE;
        return places[place] instanceof boolean[] b ? b[i] ? 1 : 0 : java.lang.reflect.Array.getLong(places[place], i);
    }

    int shift(int place, int i, int other, int j, int n) {
        if (place < 0 || place > 5 || other < 0 || other > 5) return BAD;
        Object a = places[place], b = places[other];
        if (a == null || b == null) return -11;
        try {
            System.arraycopy(a, i, b, j, n);
        } catch (ArrayStoreException e) {
            return -12;
        } catch (IndexOutOfBoundsException e) {
            return -13;
        }
        return n;
    }

    int taken(int place, int k) {
        if (place < 0 || place > 5 || k < 0 || k > 6) return BAD;
        if (places[place] == null) return -11;
        if (!(places[place] instanceof S s)) return -12;
        List<List<Integer>> under = List.of(List.of(0), List.of(1, 0), List.of(2, 0), List.of(3, 2, 0), List.of(4, 0),
                List.of(5, 4, 0), List.of(6, 5, 4, 0));
        return under.get(kind(s)).contains(k) ? kind(s) : -12;
    }

    int count(int what) {
        int[] all = {stones.size(), lines.size(), copies.size(), now, tape.size(), done.size(), trace.size()};
        return what < 0 || what > 6 ? BAD : all[what];
    }

    /** Bodies of acts, by Java's own inheritance. */
    static final class Bodies {
        interface Stands {
            int n();

            void ran(int body);

            default int stands(int x) {
                ran(1);
                return x + n();
            }
        }

        interface Tells {
            void ran(int body);

            int falls(int x);

            int hears(int x);

            default int tells(int x) {
                ran(2);
                return falls(x) - hears(1);
            }
        }

        static class Stone implements Stands, Tells {
            final int n, c;
            private final List<Integer> trace;

            Stone(int n, int c, List<Integer> trace) {
                this.n = n;
                this.c = c;
                this.trace = trace;
            }

            public int n() {
                return n;
            }

            public void ran(int body) {
                trace.add(body);
            }

            public int falls(int x) {
                ran(10);
                return stands(x) * 2;
            }

            public int hears(int x) {
                ran(11);
                return x ^ n;
            }
        }

        static class First extends Stone {
            First(int n, int c, List<Integer> t) {
                super(n, c, t);
            }

            public int falls(int x) {
                ran(20);
                return super.falls(x) + 3;
            }
        }

        static class Summed extends Stone {
            Summed(int n, int c, List<Integer> t) {
                super(n, c, t);
            }

            public int stands(int x) {
                ran(30);
                return super.stands(x) + c;
            }
        }

        static class Ruled extends Summed {
            Ruled(int n, int c, List<Integer> t) {
                super(n, c, t);
            }

            public int hears(int x) {
                ran(40);
                return super.hears(x) * 3;
            }

            public int tells(int x) {
                ran(41);
                return super.tells(x) ^ 5;
            }
        }

        static class Said extends Stone {
            Said(int n, int c, List<Integer> t) {
                super(n, c, t);
            }

            public int falls(int x) {
                ran(50);
                return -super.falls(x);
            }
        }

        static class Held extends Said {
            Held(int n, int c, List<Integer> t) {
                super(n, c, t);
            }

            public int hears(int x) {
                ran(60);
                return super.hears(x) - stands(2);
            }
        }

        static class Still extends Held {
            Still(int n, int c, List<Integer> t) {
                super(n, c, t);
            }

            public int stands(int x) {
                ran(70);
                return super.stands(x + 1);
            }

            public int hears(int x) {
                ran(71);
                return super.hears(x) * 2;
            }
        }
    }

    /** Texts: whether one is a text, whether one can become it, and what it gives. */
    static final class Wording {
        private Wording() {
        }

        /** Splits at signs that stand outside of brackets and behind an operand. */
        private static List<String> split(String t, String signs, StringBuilder found) {
            List<String> parts = new ArrayList<>();
            int open = 0, from = 0;
            for (int i = 0; i < t.length(); i++) {
                char ch = t.charAt(i);
                if (ch == '(') open++;
                if (ch == ')') open--;
                boolean behind = i > 0 && (Character.isLetterOrDigit(t.charAt(i - 1)) || t.charAt(i - 1) == ')');
                if (open == 0 && signs.indexOf(ch) >= 0 && behind) {
                    parts.add(t.substring(from, i));
                    found.append(ch);
                    from = i + 1;
                }
            }
            parts.add(t.substring(from));
            return parts;
        }

        private static final String[] LEVELS = {"|", "&", "<=>", "+-", "*/%"};

        private static boolean isPart(String t, int level, int open) {
            if (open > 6) return false;
            if (level == 5) {
                if (t.matches("[0-9]{1,4}|[mwsnchl]")) return true;
                if (t.startsWith("!") || t.startsWith("-")) return isPart(t.substring(1), 5, open + 1);
                return t.length() > 2 && t.startsWith("(") && t.endsWith(")")
                        && isPart(t.substring(1, t.length() - 1), 0, open + 1);
            }
            StringBuilder signs = new StringBuilder();
            List<String> parts = split(t, LEVELS[level], signs);
            return (level != 2 || parts.size() <= 2) && parts.stream().allMatch(p -> isPart(p, level + 1, open));
        }

        static boolean isText(String t) {
            for (String line : t.split(";", -1)) {
                String[] halves = line.split("\\?", -1);
                if (halves.length > 2 || !Arrays.stream(halves).allMatch(h -> balanced(h) && isPart(h, 0, 0))) {
                    return false;
                }
            }
            return true;
        }

        private static boolean balanced(String t) {
            int open = 0;
            for (char c : t.toCharArray()) {
                open += c == '(' ? 1 : c == ')' ? -1 : 0;
                if (open < 0) return false;
            }
            return open == 0;
        }

        /** Whether a text begins so: one that can go on can be ended by an operand and brackets. */
        static boolean goesOn(String t) {
            for (int k = 0; k <= 6; k++) {
                if (isText(t + ")".repeat(k)) || isText(t + "m" + ")".repeat(k))) return true;
            }
            return false;
        }

        static int value(String t, int[] v) {
            for (String line : t.split(";")) {
                String[] halves = line.split("\\?");
                if (halves.length == 1) return part(halves[0], 0, v);
                if (part(halves[0], 0, v) != 0) return part(halves[1], 0, v);
            }
            return 0;
        }

        private static int part(String t, int level, int[] v) {
            if (level == 5) {
                char ch = t.charAt(0);
                if (ch == '!') return part(t.substring(1), 5, v) == 0 ? 1 : 0;
                if (ch == '-') return -part(t.substring(1), 5, v);
                if (ch == '(') return part(t.substring(1, t.length() - 1), 0, v);
                return Character.isDigit(ch) ? Integer.parseInt(t) : v[ch];
            }
            StringBuilder signs = new StringBuilder();
            List<String> parts = split(t, LEVELS[level], signs);
            int a = part(parts.get(0), level + 1, v);
            for (int k = 1; k < parts.size(); k++) {
                int b = part(parts.get(k), level + 1, v);
                a = switch (signs.charAt(k - 1)) {
                    case '|' -> a != 0 | b != 0 ? 1 : 0;
                    case '&' -> a != 0 & b != 0 ? 1 : 0;
                    case '<' -> a < b ? 1 : 0;
                    case '=' -> a == b ? 1 : 0;
                    case '>' -> a > b ? 1 : 0;
                    case '+' -> a + b;
                    case '-' -> a - b;
                    case '*' -> a * b;
                    case '/' -> b == 0 ? 0 : a / b;
                    default -> b == 0 ? 0 : a % b;
                };
            }
            return a;
        }
    }
}
