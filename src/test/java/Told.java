import java.util.ArrayList;
import java.util.List;

/**
 * A TakenBack whose calls are written as text and kept, so that a second one can be told the same. None is used for more
 * than the 512 calls that the document promises.
 */
final class Told {
    static final int BAD = -1, NOT = -2, FULL = -3, STATE = -5, VOID = -2000000000;
    static final int NOTHING = -11, OTHER_KIND = -12, NO_ELEMENT = -13, BELOW_ZERO = -14;
    static final int LEAST = Integer.MIN_VALUE, GREATEST = Integer.MAX_VALUE, CALLS = 512;
    static final long NO_VALUE = Long.MIN_VALUE;

    private final TakenBack x = new TakenBack();
    private final List<Call> kept = new ArrayList<>();
    private final String promise;
    private List<Sight.Look> seen;
    private int made;

    Told(String promise) {
        this.promise = promise + ": ";
    }

    int made() {
        return made;
    }

    private long make(Call c) {
        made++;
        if (made > CALLS) {
            throw new IllegalStateException("more than 512 calls: " + c.text());
        }
        return c.on(x);
    }

    /** Calls that stand behind one another, parted by "; ", whatever they answer. */
    Told tell(String calls) {
        for (String text : calls.split("; ")) {
            Call c = Call.of(text);
            kept.add(c);
            make(c);
        }
        seen = null;
        return this;
    }

    Told due(String call, long want) {
        Call c = Call.of(call);
        kept.add(c);
        seen = null;
        Check.due(promise + call, make(c), want);
        return this;
    }

    /** A call that only looks, for its answer. */
    long ask(String call) {
        return make(Call.of(call));
    }

    /** A call that is answered so, and changes nothing: of two that were told the same it is made on one only. */
    Told refused(String call, long want) {
        Call c = Call.of(call);
        Check.due(promise + call, make(c), want);
        int left = CALLS - kept.size() - 1;
        if (seen == null) {
            seen = Sight.of(kept, left);
        }
        List<Call> with = new ArrayList<>(kept);
        with.add(c);
        List<Sight.Look> then = Sight.of(with, left);
        Check.due(promise + "what can be seen behind " + call, then.size(), seen.size());
        for (int n = 0; n < seen.size() && n < then.size(); n++) {
            if (then.get(n).answer() != seen.get(n).answer()) {
                Check.due(promise + then.get(n).text() + " behind " + call, then.get(n).answer(), seen.get(n).answer());
                return this;
            }
        }
        return this;
    }

    /** THE TAPE gets these bytes, four by four. */
    Told feed(String bytes) {
        for (int i = 0; i < bytes.length(); i += 4) {
            int n = Math.min(4, bytes.length() - i), v = 0;
            for (int k = 0; k < n; k++) {
                v |= bytes.charAt(i + k) << 8 * k;
            }
            tell("feed(" + n + ", " + v + ")");
        }
        return this;
    }

    /** What THE TAPE becomes, for a USE. */
    Told text(int use, String bytes, long want) {
        feed(bytes);
        Call c = Call.of("text(" + use + ")");
        kept.add(c);
        seen = null;
        Check.due(promise + "text(" + use + ") of " + bytes, make(c), want);
        return this;
    }

    /** What a TEXT of HEARS gives for a STONE. */
    Told odds(int stone, String bytes, long want) {
        text(0, bytes, 1);
        Call c = Call.of("odds(" + stone + ", 0)");
        kept.add(c);
        Check.due(promise + "odds(" + stone + ", 0) by " + bytes, make(c), want);
        return this;
    }

    /** A PLACE holds a ROW of these bytes. */
    Told bytes(int place, int... bytes) {
        due("row(" + place + ", 0, " + bytes.length + ")", 1);
        for (int i = 0; i < bytes.length; i++) {
            due("put(" + place + ", " + i + ", " + bytes[i] + ")", 1);
        }
        return this;
    }

    /** MONTHS GO BY until it is this one. */
    Told until(int month) {
        int now = (int) Call.of("count(3)").on(x);
        while (now < month) {
            int n = Math.min(24, month - now);
            tell("months(" + n + ")");
            now += n;
        }
        return this;
    }

    /** As many STONES of a KIND 0, 2 or 4. */
    Told plain(int kind, int many) {
        for (int n = 0; n < many; n++) {
            tell("stone(" + kind + ", 0, 0)");
        }
        return this;
    }
}
