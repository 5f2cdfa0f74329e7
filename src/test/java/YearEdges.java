/** A year by draws: promise 26. */
final class YearEdges {
    private static final String TERMS = "Terms";
    private static final int SWEARS = 0, GOES_HOME = 1, BREAKS = 2, RISES = 3, EXCHANGED = 4;

    private YearEdges() {
    }

    static void run() {
        Edges.sentence(TERMS, "A YEAR by a seed (0 to 9999) of m ACTS (1 to 99), from all as it is:", () -> {
            ParoleLedger x = Edges.with("222222", "222222");
            for (int seed : new int[] {0, 9999}) {
                for (int m : new int[] {1, 99}) {
                    Edges.due("whether year(" + seed + ", " + m + ", 2) is no refusal",
                            x.year(seed, m, 2) >= 0 ? 1 : 0, 1);
                }
            }
            Edges.due("year(-1, 1, 2)", x.year(-1, 1, 2), Edges.OUTSIDE);
            Edges.due("year(10000, 1, 2)", x.year(10000, 1, 2), Edges.OUTSIDE);
            Edges.due("year(0, 0, 2)", x.year(0, 0, 2), Edges.OUTSIDE);
            Edges.due("year(0, 100, 2)", x.year(0, 100, 2), Edges.OUTSIDE);
            int seed = seedOf(3, BREAKS, -1);
            year(x, seed, 1, 0, 0, 5);
            Edges.act(x, "Ds");
            year(x, seed, 1, 0, 1, 4);
            Edges.write(x, "Db");
            year(x, seed, 1, 0, 1, 4);
        });
        Edges.sentence(TERMS, "x becomes (75 x and 74) left over by 65537: of OFFICER x left over by 12, "
                + "by x by 12 (cut) left over by 6: 0 he swears, 1 goes HOME, 2 breaks his word, 3 is a RANK more,",
                YearEdges::draws);
        Edges.sentence(TERMS, "else he alone is exchanged for the OFFICER x by 72 (cut) left over by 6 "
                + "of the other side (its number there); each if that can be:", YearEdges::exchanges);
        Edges.sentence(TERMS, "exchanges; broken words; TRUST then.", YearEdges::counted);
        Edges.sentence(TERMS, "Nothing is DONE in fact.", () -> {
            ParoleLedger x = Edges.write(Edges.act(Edges.with("222222", "222222"), "AsBsCsasbscs"), "Ds");
            String before = Edges.all(x);
            for (int seed = 0; seed < 50; seed++) {
                x.year(seed * 200, 99, seed % 3);
            }
            Edges.same("years", Edges.all(x), before);
        });
        Edges.sentence("Promise 26", "A YEAR: exchanges (what = 0), broken (1), TRUST (2).", () -> {
            year(Edges.with(".22", "..2"), 0, 3, 1, 0, 6);
            year(new ParoleLedger(), 9999, 99, 0, 0, 5);
            ParoleLedger x = Edges.act(Edges.with("222222", ""), "AsBsCsDsEsFs");
            int seed = seedOf(5, BREAKS, -1);
            year(x, seed, 1, 0, 1, 4);
        });
        Edges.sentence("Promise 26", "OUTSIDE.", () -> {
            ParoleLedger x = Edges.with("2", "2");
            for (int seed : Edges.outside(0, 9999)) {
                Edges.due("year(" + seed + ", 1, 0)", x.year(seed, 1, 0), Edges.OUTSIDE);
            }
            for (int m : Edges.outside(1, 99)) {
                Edges.due("year(0, " + m + ", 0)", x.year(0, m, 0), Edges.OUTSIDE);
            }
            for (int what : Edges.outside(0, 2)) {
                Edges.due("year(0, 1, " + what + ")", x.year(0, 1, what), Edges.OUTSIDE);
            }
        });
    }

    private static void year(ParoleLedger x, int seed, int m, int exchanges, int broken, int trust) {
        String call = "year(" + seed + ", " + m + ", ";
        Edges.due(call + "0)", x.year(seed, m, 0), exchanges);
        Edges.due(call + "1)", x.year(seed, m, 1), broken);
        Edges.due(call + "2)", x.year(seed, m, 2), trust);
    }

    private static long next(long x) {
        return (75 * x + 74) % 65537;
    }

    /** Whether a draw is of this officer and kind, an exchange for this other one; -1: any. */
    private static boolean isDraw(long x, int officer, int kind, int other) {
        long drawn = Math.min(EXCHANGED, x / 12 % 6);
        return x % 12 == officer && drawn == kind && (other < 0 || x / 72 % 6 == other);
    }

    private static int seedOf(int officer, int kind, int other) {
        for (int seed = 0; seed < 10000; seed++) {
            if (isDraw(next(seed), officer, kind, other)) {
                return seed;
            }
        }
        throw new IllegalStateException("no such seed");
    }

    /** A seed by which some officer draws first one kind, then the other; the seed and the officer. */
    private static int[] seedOfTwo(int first, int second) {
        for (int seed = 0; seed < 10000; seed++) {
            long x = next(seed);
            int officer = (int) (x % 12);
            if (isDraw(x, officer, first, -1) && isDraw(next(x), officer, second, -1)) {
                return new int[] {seed, officer};
            }
        }
        throw new IllegalStateException("no such seed");
    }

    private static ParoleLedger all(int rank) {
        return Edges.with(("" + rank).repeat(6), ("" + rank).repeat(6));
    }

    /**
     * By seed 0 x becomes 74 (C swears), 5624 (c swears), 421874 less 6 times 65537, 28652 (c is
     * exchanged for B), 51790 (e goes home).
     */
    private static void draws() {
        ParoleLedger x = Edges.with(".22", "..2");
        year(x, 0, 1, 0, 0, 5);
        year(x, 0, 2, 0, 0, 5);
        year(x, 0, 3, 1, 0, 6);
        year(x, 0, 4, 1, 0, 6);
        int[] seed = seedOfTwo(SWEARS, BREAKS);
        year(all(2), seed[0], 1, 0, 0, 5);
        year(all(2), seed[0], 2, 0, 1, 4);
        ParoleLedger noTrust = all(2);
        noTrust.trust(0);
        year(noTrust, seed[0], 2, 0, 0, 0);
        seed = seedOfTwo(GOES_HOME, BREAKS);
        year(all(2), seed[0], 2, 0, 0, 5);
        ParoleLedger walking = Edges.act(all(2), Edges.LETTERS.charAt(seed[1]) + "s");
        year(walking, seed[0], 2, 0, 1, 4);
        seed = seedOfTwo(BREAKS, BREAKS);
        walking = Edges.act(all(2), Edges.LETTERS.charAt(seed[1]) + "s");
        year(walking, seed[0], 2, 0, 1, 4);
        seed = seedOfTwo(RISES, EXCHANGED);
        year(all(2), seed[0], 2, 0, 0, 5);
        year(all(5), seed[0], 2, 1, 0, 6);
        ParoleLedger lower = all(3);
        lower.officer(seed[1], 2);
        year(lower, seed[0], 2, 1, 0, 6);
    }

    private static void exchanges() {
        for (int other = 0; other < 6; other++) {
            ParoleLedger x = new ParoleLedger();
            x.officer(4, 3);
            x.officer(6 + other, 3);
            year(x, seedOf(4, EXCHANGED, other), 1, 1, 0, 6);
            year(x, seedOf(4, EXCHANGED, (other + 1) % 6), 1, 0, 0, 5);
            ParoleLedger y = new ParoleLedger();
            y.officer(11, 3);
            y.officer(other, 3);
            year(y, seedOf(11, EXCHANGED, other), 1, 1, 0, 6);
            year(y, seedOf(11, EXCHANGED, (other + 1) % 6), 1, 0, 0, 5);
        }
        for (int officer = 0; officer < 12; officer++) {
            ParoleLedger each = Edges.with("222222", "222222");
            year(each, seedOf(officer, EXCHANGED, 3), 1, 1, 0, 6);
            each.leave(officer < 6 ? 9 : 3);
            year(each, seedOf(officer, EXCHANGED, 3), 1, 0, 0, 5);
        }
        int seed = seedOf(0, EXCHANGED, 0);
        ParoleLedger z = Edges.with("2", "3");
        year(z, seed, 1, 0, 0, 5);
        z.rate(3, 4);
        year(z, seed, 1, 1, 0, 6);
        z.trust(0);
        year(z, seed, 1, 0, 0, 0);
        z.trust(9);
        year(z, seed, 1, 1, 0, 9);
        for (int state = 0; state < 5; state++) {
            ParoleLedger w = Edges.act(Edges.with("22", "22"), Edges.into(state, 'A', 'b'));
            w.trust(5);
            year(w, seed, 1, state < Edges.FREE ? 1 : 0, 0, state < Edges.FREE ? 6 : 5);
        }
    }

    /** The first seed by which two officers, one behind the other, draw this. */
    private static int seedOfPair(int kind) {
        for (int seed = 0; seed < 10000; seed++) {
            long x = next(seed);
            long y = next(x);
            if (x % 12 != y % 12 && isDraw(x, (int) (x % 12), kind, -1) && isDraw(y, (int) (y % 12), kind, -1)) {
                return seed;
            }
        }
        throw new IllegalStateException("no such seed");
    }

    private static void counted() {
        ParoleLedger sworn = Edges.act(all(2), "AsBsCsDsEsFsasbscsdsesfs");
        year(sworn, seedOfPair(BREAKS), 2, 0, 2, 3);
        sworn.trust(1);
        year(sworn, seedOfPair(BREAKS), 2, 0, 2, 0);
        year(sworn, seedOfPair(RISES), 2, 0, 0, 1);
        ParoleLedger x = Edges.act(all(2), "AsAb(B:b)DsEs");
        x.trust(1);
        year(x, seedOf(3, BREAKS, -1), 1, 0, 1, 0);
        year(x, seedOf(0, BREAKS, -1), 1, 0, 0, 1);
        year(x, seedOf(1, EXCHANGED, 1), 1, 0, 0, 1);
        x.trust(0);
        year(x, seedOf(4, BREAKS, -1), 1, 0, 1, 0);
        x.trust(9);
        year(x, seedOf(5, EXCHANGED, 5), 1, 1, 0, 9);
    }
}
