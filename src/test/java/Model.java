import java.math.BigInteger;
import java.util.ArrayList;
import java.util.HashMap;
import java.util.HashSet;
import java.util.List;
import java.util.Map;
import java.util.Set;
import java.util.TreeMap;
import java.util.regex.Pattern;

/** The document once more, by brute force over the Java library: what ModelTest compares with. */
final class Model {
    static final int UNKNOWN = -1, OUTSIDE = -2, STATE = -3, FULL = -4, NO = -5, NONE = -6;
    static final BigInteger GONE = BigInteger.TEN.pow(18).negate();
    private static final String LETTERS = "ABCDEFabcdef";

    static final class Man {
        int rank;
        int state;

        Man(int rank, int state) {
            this.rank = rank;
            this.state = state;
        }

        boolean open() {
            return state != 3 && state != 4;
        }

        boolean onWord() {
            return state == 1 || state == 2;
        }
    }

    record Sight(Set<Integer> ours, Set<Integer> theirs, boolean even) { }

    record Deal(Set<Integer> ours, Set<Integer> theirs) { }

    record World(int who, int rank) { }

    static final class Facts {
        TreeMap<Integer, Man> men = new TreeMap<>();
        int[] rates = {1, 2, 4, 8, 20, 60};
        int trust = 5;
        List<Sight> sights = new ArrayList<>();

        Facts copy() {
            Facts f = new Facts();
            for (Map.Entry<Integer, Man> e : men.entrySet()) {
                f.men.put(e.getKey(), new Man(e.getValue().rank, e.getValue().state));
            }
            f.rates = rates.clone();
            f.trust = trust;
            f.sights = new ArrayList<>(sights);
            return f;
        }

        int worth(int i) {
            return rates[men.get(i).rank];
        }

        int worth(Set<Integer> lot) {
            return lot.stream().mapToInt(this::worth).sum();
        }

        Set<Integer> open(boolean ours) {
            Set<Integer> s = new HashSet<>();
            for (int i : men.keySet()) {
                if (i < 6 == ours && men.get(i).open()) {
                    s.add(i);
                }
            }
            return s;
        }
    }

    private Facts facts = new Facts();
    private final StringBuilder pad = new StringBuilder();
    private final Facts[] images = new Facts[2];

    int officer(int officer, int rank) {
        if (officer < 0 || officer > 11) {
            return UNKNOWN;
        }
        if (rank < 0 || rank > 5) {
            return OUTSIDE;
        }
        facts.men.put(officer, new Man(rank, 0));
        return facts.men.size();
    }

    int leave(int officer) {
        if (facts.men.remove(officer) == null) {
            return UNKNOWN;
        }
        return facts.men.size();
    }

    int rate(int rank, int v) {
        if (rank < 0 || rank > 5 || v < 1 || v > 99) {
            return OUTSIDE;
        }
        int was = facts.rates[rank];
        facts.rates[rank] = v;
        return was;
    }

    int trust(int v) {
        if (v < 0 || v > 9) {
            return OUTSIDE;
        }
        int was = facts.trust;
        facts.trust = v;
        return was;
    }

    int say(int sign) {
        if (sign < 33 || sign > 126) {
            return OUTSIDE;
        }
        if (pad.length() == 60) {
            return FULL;
        }
        pad.append((char) sign);
        return pad.length();
    }

    int wipe() {
        int n = pad.length();
        pad.setLength(0);
        return n;
    }

    private static final Pattern WHOLE =
            Pattern.compile("([A-Fa-f][shb+]|\\([A-F]+:[a-f]+\\))*");
    private static final Pattern BEGUN =
            Pattern.compile("([A-Fa-f][shb+]|\\([A-F]+:[a-f]+\\))*([A-Fa-f]|\\([A-F]*|\\([A-F]+:[a-f]*)?");

    int fault() {
        if (WHOLE.matcher(pad).matches()) {
            return NONE;
        }
        for (int n = 1; n <= pad.length(); n++) {
            if (!BEGUN.matcher(pad.substring(0, n)).matches()) {
                return n - 1;
            }
        }
        return pad.length();
    }

    /** What came of the pad: acts, the first that can not be, why. */
    private Facts after;
    private int acts;
    private int exchanges;
    private int why;

    private void play() {
        after = facts.copy();
        acts = 0;
        exchanges = 0;
        why = 0;
        String text = pad.toString();
        while (!text.isEmpty()) {
            int end = text.charAt(0) == '(' ? text.indexOf(')') + 1 : 2;
            String act = text.substring(0, end);
            why = act(after, act);
            if (why != 0) {
                return;
            }
            acts++;
            exchanges += act.charAt(0) == '(' ? 1 : 0;
            text = text.substring(end);
        }
    }

    /** Does an act given as text; answers 0, or why it can not be. */
    private static int act(Facts f, String act) {
        if (act.charAt(0) == '(') {
            return exchange(f, act);
        }
        Man man = f.men.get(LETTERS.indexOf(act.charAt(0)));
        char deed = act.charAt(1);
        if (man == null) {
            return 1;
        }
        boolean fits = deed == 's' ? man.state == 0 : deed == 'h' ? man.state == 1
                : deed == 'b' ? man.onWord() : man.open();
        if (!fits) {
            return 3;
        }
        if (deed == '+' && man.rank == 5) {
            return 4;
        }
        if (deed == 's' && f.trust == 0) {
            return 5;
        }
        switch (deed) {
            case 's' -> man.state = 1;
            case 'h' -> man.state = 2;
            case 'b' -> {
                man.state = 4;
                f.trust = f.trust == 0 ? 0 : f.trust - 1;
            }
            default -> man.rank++;
        }
        return 0;
    }

    private static int exchange(Facts f, String act) {
        List<Integer> all = new ArrayList<>();
        for (char c : act.toCharArray()) {
            if (LETTERS.indexOf(c) >= 0) {
                all.add(LETTERS.indexOf(c));
            }
        }
        if (all.stream().anyMatch(i -> !f.men.containsKey(i))) {
            return 1;
        }
        if (new HashSet<>(all).size() != all.size()) {
            return 2;
        }
        if (all.stream().anyMatch(i -> !f.men.get(i).open())) {
            return 3;
        }
        if (f.trust == 0) {
            return 5;
        }
        if (all.stream().mapToInt(i -> i < 6 ? f.worth(i) : -f.worth(i)).sum() != 0) {
            return 6;
        }
        all.forEach(i -> f.men.get(i).state = 3);
        f.trust = f.trust == 9 ? 9 : f.trust + 1;
        return 0;
    }

    int judge(int what) {
        if (what < 0 || what > 2) {
            return OUTSIDE;
        }
        if (fault() != NONE) {
            return NO;
        }
        play();
        if (what == 2) {
            return why != 0 ? STATE : exchanges;
        }
        return why == 0 ? NONE : what == 0 ? acts : why;
    }

    int behind(int officer, int what) {
        if (!facts.men.containsKey(officer)) {
            return UNKNOWN;
        }
        if (what != 0 && what != 1) {
            return OUTSIDE;
        }
        int j = judge(2);
        if (j < 0) {
            return j;
        }
        Man man = after.men.get(officer);
        return what == 0 ? man.state : man.rank;
    }

    int ledger(int what) {
        if (what < 0 || what > 2) {
            return OUTSIDE;
        }
        int j = judge(2);
        if (j < 0) {
            return j;
        }
        return what == 0 ? after.trust : after.worth(after.open(what == 1));
    }

    int done() {
        int j = judge(2);
        if (j < 0) {
            return j;
        }
        facts = after;
        pad.setLength(0);
        return acts;
    }

    int owed() {
        return 1000 + facts.worth(facts.open(true)) - facts.worth(facts.open(false));
    }

    private static List<Set<Integer>> lotsOf(Set<Integer> from) {
        List<Set<Integer>> out = new ArrayList<>();
        out.add(new HashSet<>());
        for (int i : from) {
            for (Set<Integer> s : new ArrayList<>(out)) {
                Set<Integer> more = new HashSet<>(s);
                more.add(i);
                out.add(more);
            }
        }
        out.remove(0);
        return out;
    }

    private List<Deal> deals() {
        List<Deal> out = new ArrayList<>();
        List<Set<Integer>> theirs = lotsOf(facts.open(false));
        for (Set<Integer> a : lotsOf(facts.open(true))) {
            for (Set<Integer> b : theirs) {
                if (facts.worth(a) == facts.worth(b)) {
                    out.add(new Deal(a, b));
                }
            }
        }
        return out;
    }

    private static int bits(Set<Integer> s) {
        int b = 0;
        for (int i : s) {
            b += 1 << (i % 6);
        }
        return b;
    }

    private static int pick(Deal d, int what, int many) {
        return what == 0 ? many : what == 1 ? bits(d.ours) : bits(d.theirs);
    }

    int home(int what) {
        if (what < 0 || what > 2) {
            return OUTSIDE;
        }
        List<Deal> all = deals();
        all.sort((x, y) -> {
            int c = y.ours.size() - x.ours.size();
            c = c != 0 ? c : x.theirs.size() - y.theirs.size();
            c = c != 0 ? c : bits(x.ours) - bits(y.ours);
            return c != 0 ? c : bits(x.theirs) - bits(y.theirs);
        });
        return all.isEmpty() ? NONE : pick(all.get(0), what, all.get(0).ours.size());
    }

    int bring(int officer, int what) {
        if (officer > 5 || !facts.men.containsKey(officer)) {
            return UNKNOWN;
        }
        if (what < 0 || what > 2) {
            return OUTSIDE;
        }
        if (!facts.men.get(officer).open()) {
            return STATE;
        }
        List<Deal> all = deals();
        all.removeIf(d -> !d.ours.contains(officer));
        all.sort((x, y) -> {
            int c = x.theirs.size() - y.theirs.size();
            c = c != 0 ? c : x.ours.size() - y.ours.size();
            c = c != 0 ? c : bits(x.ours) - bits(y.ours);
            return c != 0 ? c : bits(x.theirs) - bits(y.theirs);
        });
        return all.isEmpty() ? NONE : pick(all.get(0), what, all.get(0).theirs.size());
    }

    int lots() {
        List<int[]> pairs = new ArrayList<>();
        for (Deal d : deals()) {
            pairs.add(new int[] {bits(d.ours), bits(d.theirs)});
        }
        return most(63, 63, pairs, new HashMap<>());
    }

    private static int most(int ours, int theirs, List<int[]> pairs, Map<Integer, Integer> known) {
        Integer had = known.get(ours * 64 + theirs);
        if (had != null) {
            return had;
        }
        int best = 0;
        for (int[] p : pairs) {
            if ((p[0] & ~ours) == 0 && (p[1] & ~theirs) == 0) {
                best = Math.max(best, 1 + most(ours - p[0], theirs - p[1], pairs, known));
            }
        }
        known.put(ours * 64 + theirs, best);
        return best;
    }

    int even() {
        Set<Integer> a = facts.open(true);
        Set<Integer> b = facts.open(false);
        return !a.isEmpty() && !b.isEmpty() && facts.worth(a) == facts.worth(b) ? 1 : 0;
    }

    int fair(int rank) {
        if (rank < 0 || rank > 5) {
            return OUTSIDE;
        }
        int was = facts.rates[rank];
        int found = NONE;
        for (int v = 99; v >= 1; v--) {
            facts.rates[rank] = v;
            found = even() == 1 ? v : found;
        }
        facts.rates[rank] = was;
        return found;
    }

    private static Set<Integer> lot(int bits, int from) {
        Set<Integer> s = new HashSet<>();
        for (int i = 0; i < 32; i++) {
            if ((bits >>> i & 1) == 1) {
                s.add(i < 6 ? from + i : 100 + i);
            }
        }
        return s;
    }

    int seen(int ours, int theirs, boolean even) {
        Set<Integer> a = lot(ours, 0);
        Set<Integer> b = lot(theirs, 6);
        if (a.isEmpty() || b.isEmpty() || !facts.men.keySet().containsAll(a) || !facts.men.keySet().containsAll(b)) {
            return UNKNOWN;
        }
        if (facts.sights.size() == 8) {
            return FULL;
        }
        facts.sights.add(new Sight(a, b, even));
        return facts.sights.size();
    }

    int forget() {
        int n = facts.sights.size();
        facts.sights.clear();
        return n;
    }

    private int worthIn(World w, int i) {
        Man man = facts.men.get(i);
        return man == null ? 0 : facts.rates[w.who == i ? w.rank : man.rank];
    }

    private boolean fits(World w) {
        for (Sight s : facts.sights) {
            int a = s.ours.stream().mapToInt(i -> worthIn(w, i)).sum();
            int b = s.theirs.stream().mapToInt(i -> worthIn(w, i)).sum();
            if ((a == b) != s.even) {
                return false;
            }
        }
        return true;
    }

    private List<World> worlds() {
        List<World> out = new ArrayList<>();
        out.add(new World(-1, -1));
        facts.men.forEach((i, man) -> {
            for (int r = 0; r < 6; r++) {
                if (r != man.rank) {
                    out.add(new World(i, r));
                }
            }
        });
        out.removeIf(w -> !fits(w));
        return out;
    }

    int forged(int what) {
        if (what != 0 && what != 1) {
            return OUTSIDE;
        }
        List<World> all = worlds();
        if (what == 0) {
            return all.size();
        }
        return all.stream().filter(w -> w.who >= 0).mapToInt(w -> 1 << w.who).reduce(0, (x, y) -> x | y);
    }

    int rank(int officer) {
        if (!facts.men.containsKey(officer)) {
            return UNKNOWN;
        }
        return worlds().stream().filter(w -> w.who == officer).mapToInt(w -> w.rank).min().orElse(NONE);
    }

    int weigh(int what) {
        if (what != 0 && what != 1) {
            return OUTSIDE;
        }
        List<World> all = worlds();
        TreeMap<Integer, Integer> left = new TreeMap<>();
        for (int i : facts.men.headMap(6).keySet()) {
            for (int j : facts.men.tailMap(6).keySet()) {
                int evens = (int) all.stream().filter(w -> worthIn(w, i) == worthIn(w, j)).count();
                left.put(12 * i + j, Math.max(evens, all.size() - evens));
            }
        }
        if (left.isEmpty() || all.isEmpty()) {
            return NONE;
        }
        int least = left.values().stream().mapToInt(v -> v).min().getAsInt();
        int which = left.keySet().stream().filter(k -> left.get(k) == least).findFirst().get();
        return what == 0 ? which : least;
    }

    long broken(int t, int k, int part) {
        if (t < 0 || t > 10 || k < -1 || k > 9 || part < 0 || part > 1) {
            return GONE.longValueExact() + OUTSIDE;
        }
        int n = (int) facts.men.values().stream().filter(Man::onWord).count();
        BigInteger upper = BigInteger.ZERO;
        for (int set = 0; set < 1 << n; set++) {
            int broke = Integer.bitCount(set);
            BigInteger ways = BigInteger.valueOf(t).pow(broke).multiply(BigInteger.valueOf(10 - t).pow(n - broke));
            int trust = Math.max(0, facts.trust - broke);
            int times = k < 0 ? trust : trust >= k ? 1 : 0;
            upper = upper.add(ways.multiply(BigInteger.valueOf(times)));
        }
        BigInteger lower = BigInteger.TEN.pow(n);
        BigInteger g = upper.gcd(lower);
        return (part == 0 ? upper : lower).divide(g).longValueExact();
    }

    int rests(int side, int g, int c, int what) {
        if (side < 0 || side > 1 || g < 0 || g > 99 || c < 0 || c > 99 || what < 0 || what > 2) {
            return OUTSIDE;
        }
        int n = (int) facts.men.entrySet().stream()
                .filter(e -> e.getKey() / 6 == side && e.getValue().onWord()).count();
        List<Integer> sizes = new ArrayList<>();
        for (int set = 0; set < 1 << n; set++) {
            boolean rest = true;
            for (int i = 0; i < n; i++) {
                rest &= gain(set, i, g, c) >= gain(set ^ 1 << i, i, g, c);
            }
            if (rest) {
                sizes.add(Integer.bitCount(set));
            }
        }
        if (what == 0) {
            return sizes.size();
        }
        return what == 1 ? sizes.stream().mapToInt(v -> v).min().orElse(NONE)
                : sizes.stream().mapToInt(v -> v).max().orElse(NONE);
    }

    private static int gain(int set, int i, int g, int c) {
        return (set >> i & 1) == 1 ? g - c * Integer.bitCount(set) : 0;
    }

    int year(int seed, int m, int what) {
        if (seed < 0 || seed > 9999 || m < 1 || m > 99 || what < 0 || what > 2) {
            return OUTSIDE;
        }
        Facts f = facts.copy();
        int traded = 0;
        int broke = 0;
        long x = seed;
        for (int n = 0; n < m; n++) {
            x = (75 * x + 74) % 65537;
            int who = (int) (x % 12);
            int kind = (int) (x / 12 % 6);
            int other = (int) (x / 72 % 6);
            if (kind < 4) {
                String act = "" + LETTERS.charAt(who) + "shb+".charAt(kind);
                if (act(f, act) == 0 && kind == 2) {
                    broke++;
                }
            } else {
                char a = LETTERS.charAt(who < 6 ? who : other);
                char b = LETTERS.charAt(who < 6 ? 6 + other : who);
                traded += act(f, "(" + a + ":" + b + ")") == 0 ? 1 : 0;
            }
        }
        return what == 0 ? traded : what == 1 ? broke : f.trust;
    }

    int image(int k) {
        if (k != 0 && k != 1) {
            return OUTSIDE;
        }
        images[k] = facts.copy();
        return 1;
    }

    int restore(int k) {
        if (k != 0 && k != 1) {
            return OUTSIDE;
        }
        if (images[k] == null) {
            return STATE;
        }
        facts = images[k].copy();
        return 1;
    }

    int told(int what) {
        if (what >= 20 && what <= 31 && facts.men.containsKey(what - 20)) {
            return facts.men.get(what - 20).rank;
        }
        if (what >= 40 && what <= 51 && facts.men.containsKey(what - 40)) {
            return facts.men.get(what - 40).state;
        }
        if (what >= 10 && what <= 15) {
            return facts.rates[what - 10];
        }
        return switch (what) {
            case 0 -> pad.length();
            case 1 -> facts.men.keySet().stream().mapToInt(i -> 1 << i).sum();
            case 2 -> facts.trust;
            case 3 -> facts.sights.size();
            default -> OUTSIDE;
        };
    }
}
