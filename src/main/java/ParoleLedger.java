import java.util.Arrays;

/** Two ledgers of captured officers who are free on their word until they are exchanged. */
public final class ParoleLedger {
    public static final int UNKNOWN = -1, OUTSIDE = -2, STATE = -3, FULL = -4, NO = -5, NONE = -6;
    public static final long GONE = -1000000000000000000L;

    private static final int OFFICERS = 12, SIDE = 6, RANKS = 6, GENERAL = 5;
    private static final int HELD = 0, WALKS = 1, AT_HOME = 2, FREE = 3, BROKEN = 4;

    /** Sets of what an officer is, a bit for each. */
    private static final int OPEN = 1 << HELD | 1 << WALKS | 1 << AT_HOME, ON_WORD = 1 << WALKS | 1 << AT_HOME;

    /** All of a side, as bits of officers. */
    private static final int OURS = 0x3F, THEIRS = 0xFC0;

    private static final int MOST_TRUST = 9, FIRST_TRUST = 5, MOST_RATE = 99;
    private static final int SIGNS = 60, FIRST_SIGN = 33, LAST_SIGN = 126;
    private static final int SIGHTS = 8, IMAGES = 2, OWED_BASE = 1000;
    private static final int BASIS = 10, MOST_STAKE = 99, LAST_SEED = 9999, MOST_ACTS = 99;

    /** The lots of one side: 6 officers, a bit for each. */
    private static final int LOTS = 64;

    private static final int SWEARS = 0, GOES_HOME = 1, BREAKS = 2, RISES = 3;

    /** Why an act can not be; CAN_BE: it can. */
    private static final int CAN_BE = 0, NOT_THERE = 1, TWICE = 2, WRONG_STATE = 3,
            IS_GENERAL = 4, NO_TRUST = 5, UNEVEN = 6;

    private final Books now = new Books();
    private final Pad pad = new Pad();
    private final Months months = new Months();
    private final Exchanges exchanges = new Exchanges();
    private final Worlds worlds = new Worlds();
    private final Breaks breaks = new Breaks();
    private final Rests resting = new Rests();
    private final Year course = new Year();
    private final Books[] images = {new Books(), new Books()};
    private final boolean[] kept = new boolean[IMAGES];

    public ParoleLedger() {
    }

    // ---- 1 officers, rates

    public int officer(int officer, int rank) {
        if (!isWithin(officer, 0, OFFICERS - 1)) {
            return UNKNOWN;
        }
        if (!isWithin(rank, 0, RANKS - 1)) {
            return OUTSIDE;
        }
        now.enter(officer, rank);
        return Integer.bitCount(now.present);
    }

    public int leave(int officer) {
        if (!now.isThere(officer)) {
            return UNKNOWN;
        }
        now.present &= ~(1 << officer);
        return Integer.bitCount(now.present);
    }

    public int rate(int rank, int v) {
        if (!isWithin(rank, 0, RANKS - 1) || !isWithin(v, 1, MOST_RATE)) {
            return OUTSIDE;
        }
        int was = now.rates[rank];
        now.rates[rank] = v;
        return was;
    }

    public int trust(int v) {
        if (!isWithin(v, 0, MOST_TRUST)) {
            return OUTSIDE;
        }
        int was = now.trust;
        now.trust = v;
        return was;
    }

    public int say(int sign) {
        if (!isWithin(sign, FIRST_SIGN, LAST_SIGN)) {
            return OUTSIDE;
        }
        if (pad.count >= SIGNS) {
            return FULL;
        }
        pad.write(sign);
        return pad.count;
    }

    public int wipe() {
        int were = pad.count;
        pad.count = 0;
        return were;
    }

    public int fault() {
        return pad.firstFault();
    }

    // ---- 2 months, ledgers

    public int judge(int what) {
        if (!isWithin(what, 0, 2)) {
            return OUTSIDE;
        }
        int refusal = readMonths();
        if (refusal == NO) {
            return NO;
        }
        if (what == 0) {
            return months.failedAct();
        }
        if (what == 1) {
            return months.failedWhy();
        }
        return refusal == STATE ? STATE : months.exchanged;
    }

    public int behind(int officer, int what) {
        if (!now.isThere(officer)) {
            return UNKNOWN;
        }
        if (!isWithin(what, 0, 1)) {
            return OUTSIDE;
        }
        int refusal = readMonths();
        if (refusal != CAN_BE) {
            return refusal;
        }
        return what == 0 ? months.books.states[officer] : months.books.ranks[officer];
    }

    public int ledger(int what) {
        if (!isWithin(what, 0, 2)) {
            return OUTSIDE;
        }
        int refusal = readMonths();
        if (refusal != CAN_BE) {
            return refusal;
        }
        if (what == 0) {
            return months.books.trust;
        }
        int side = what == 1 ? OURS : THEIRS;
        return Math.abs(months.books.lead(months.books.crowdIn(OPEN) & side));
    }

    public int done() {
        int refusal = readMonths();
        if (refusal != CAN_BE) {
            return refusal;
        }
        now.copyFrom(months.books);
        pad.count = 0;
        return months.acts;
    }

    public int owed() {
        return now.lead(now.crowdIn(OPEN)) + OWED_BASE;
    }

    // ---- 3 exchanges

    public int home(int what) {
        if (!isWithin(what, 0, 2)) {
            return OUTSIDE;
        }
        exchanges.findForMost(now);
        return exchanges.answer(what, exchanges.bestOurs);
    }

    public int bring(int officer, int what) {
        if (officer >= SIDE || !now.isThere(officer)) {
            return UNKNOWN;
        }
        if (!isWithin(what, 0, 2)) {
            return OUTSIDE;
        }
        if ((now.crowdIn(OPEN) >> officer & 1) == 0) {
            return STATE;
        }
        exchanges.findForOne(now, officer);
        return exchanges.answer(what, exchanges.bestTheirs);
    }

    public int lots() {
        return exchanges.mostInARow(now);
    }

    public int even() {
        return bothSidesOpen() && now.lead(now.crowdIn(OPEN)) == 0 ? 1 : 0;
    }

    public int fair(int rank) {
        if (!isWithin(rank, 0, RANKS - 1)) {
            return OUTSIDE;
        }
        return bothSidesOpen() ? now.evenRate(rank) : NONE;
    }

    // ---- 4 forged ranks, broken words

    public int seen(int ours, int theirs, boolean even) {
        if (!now.areThere(ours, 0) || !now.areThere(theirs, 1)) {
            return UNKNOWN;
        }
        if (now.sights >= SIGHTS) {
            return FULL;
        }
        now.addSight(ours | theirs << SIDE, even);
        return now.sights;
    }

    public int forget() {
        int were = now.sights;
        now.sights = 0;
        return were;
    }

    public int forged(int what) {
        if (!isWithin(what, 0, 1)) {
            return OUTSIDE;
        }
        worlds.find(now);
        return what == 0 ? worlds.count : worlds.forgers();
    }

    public int rank(int officer) {
        if (!now.isThere(officer)) {
            return UNKNOWN;
        }
        worlds.find(now);
        return worlds.leastRank(officer);
    }

    public int weigh(int what) {
        if (!isWithin(what, 0, 1)) {
            return OUTSIDE;
        }
        worlds.find(now);
        worlds.choosePair(now);
        return what == 0 ? worlds.bestPair : worlds.bestLeft;
    }

    public long broken(int t, int k, int part) {
        if (!isWithin(t, 0, BASIS) || !isWithin(k, -1, MOST_TRUST) || !isWithin(part, 0, 1)) {
            return GONE + OUTSIDE;
        }
        breaks.spread(Integer.bitCount(now.crowdIn(ON_WORD)), t);
        long upper = k < 0 ? breaks.trustSum(now.trust) : breaks.waysToKeep(now.trust, k);
        return breaks.lowestTerms(upper, part);
    }

    public int rests(int side, int g, int c, int what) {
        if (!isWithin(side, 0, 1) || !isWithin(g, 0, MOST_STAKE) || !isWithin(c, 0, MOST_STAKE)
                || !isWithin(what, 0, 2)) {
            return OUTSIDE;
        }
        resting.count(Integer.bitCount(now.lotIn(ON_WORD, side)), g, c);
        if (what == 0) {
            return resting.sets;
        }
        return what == 1 ? resting.fewest : resting.most;
    }

    public int year(int seed, int m, int what) {
        if (!isWithin(seed, 0, LAST_SEED) || !isWithin(m, 1, MOST_ACTS) || !isWithin(what, 0, 2)) {
            return OUTSIDE;
        }
        course.pass(now, seed, m);
        if (what == 0) {
            return course.exchanged;
        }
        return what == 1 ? course.brokenWords : course.books.trust;
    }

    public int image(int k) {
        if (!isWithin(k, 0, IMAGES - 1)) {
            return OUTSIDE;
        }
        images[k].copyFrom(now);
        kept[k] = true;
        return 1;
    }

    public int restore(int k) {
        if (!isWithin(k, 0, IMAGES - 1)) {
            return OUTSIDE;
        }
        if (!kept[k]) {
            return STATE;
        }
        now.copyFrom(images[k]);
        return 1;
    }

    public int told(int what) {
        if (isWithin(what, 0, 3)) {
            return toldCount(what);
        }
        if (isWithin(what, 10, 10 + RANKS - 1)) {
            return now.rates[what - 10];
        }
        if (isWithin(what, 20, 20 + OFFICERS - 1) && now.isThere(what - 20)) {
            return now.ranks[what - 20];
        }
        if (isWithin(what, 40, 40 + OFFICERS - 1) && now.isThere(what - 40)) {
            return now.states[what - 40];
        }
        return OUTSIDE;
    }

    private int toldCount(int what) {
        if (what == 0) {
            return pad.count;
        }
        if (what == 1) {
            return now.present;
        }
        return what == 2 ? now.trust : now.sights;
    }

    /** Reads the pad from the books as they are; answers NO, STATE or CAN_BE. */
    private int readMonths() {
        if (pad.firstFault() != NONE) {
            return NO;
        }
        months.read(now, pad);
        return months.why == CAN_BE ? CAN_BE : STATE;
    }

    private boolean bothSidesOpen() {
        return now.lotIn(OPEN, 0) != 0 && now.lotIn(OPEN, 1) != 0;
    }

    private static boolean isWithin(int number, int least, int most) {
        return number >= least && number <= most;
    }

    /** All that an image keeps. */
    static final class Books {
        /** Bits of the officers who are there: 0 to 5 ours, 6 to 11 theirs. */
        int present;
        int trust = FIRST_TRUST;
        int sights;
        /** A bit for each sight that was even. */
        int evenSights;
        final int[] ranks = new int[OFFICERS];
        final int[] states = new int[OFFICERS];
        final int[] rates = {1, 2, 4, 8, 20, 60};
        /** Both lots of each sight, as bits of officers. */
        final int[] sightCrowds = new int[SIGHTS];

        void copyFrom(Books other) {
            present = other.present;
            trust = other.trust;
            sights = other.sights;
            evenSights = other.evenSights;
            System.arraycopy(other.ranks, 0, ranks, 0, OFFICERS);
            System.arraycopy(other.states, 0, states, 0, OFFICERS);
            System.arraycopy(other.rates, 0, rates, 0, RANKS);
            System.arraycopy(other.sightCrowds, 0, sightCrowds, 0, SIGHTS);
        }

        void enter(int officer, int rank) {
            present |= 1 << officer;
            ranks[officer] = rank;
            states[officer] = HELD;
        }

        boolean isThere(int officer) {
            return officer >= 0 && officer < OFFICERS && (present >> officer & 1) == 1;
        }

        /** Whether a lot of a side is not empty and all in it are there. */
        boolean areThere(int lot, int side) {
            int sidePresent = present >> side * SIDE & LOTS - 1;
            return lot != 0 && (lot & ~sidePresent) == 0;
        }

        /** Those who are there and in one of these states, as bits of officers. */
        int crowdIn(int stateSet) {
            int crowd = 0;
            for (int officer = 0; officer < OFFICERS; officer++) {
                if ((present >> officer & 1) == 1 && (stateSet >> states[officer] & 1) == 1) {
                    crowd |= 1 << officer;
                }
            }
            return crowd;
        }

        /** Those of a side who are in one of these states, bits 0 to 5. */
        int lotIn(int stateSet, int side) {
            return crowdIn(stateSet) >> side * SIDE & LOTS - 1;
        }

        int worth(int officer) {
            return rates[ranks[officer]];
        }

        /** By how much ours in a crowd are worth more than theirs; who is not there counts nothing. */
        int lead(int crowd) {
            int sum = 0;
            for (int officer = 0; officer < OFFICERS; officer++) {
                if ((crowd & present & 1 << officer) != 0) {
                    sum += officer < SIDE ? worth(officer) : -worth(officer);
                }
            }
            return sum;
        }

        /** The least rate of a rank by which all who are open are even. */
        int evenRate(int rank) {
            int open = crowdIn(OPEN);
            int others = 0;
            int number = 0;
            for (int officer = 0; officer < OFFICERS; officer++) {
                if ((open >> officer & 1) == 1) {
                    int sign = officer < SIDE ? 1 : -1;
                    number += ranks[officer] == rank ? sign : 0;
                    others += ranks[officer] == rank ? 0 : sign * worth(officer);
                }
            }
            for (int v = 1; v <= MOST_RATE; v++) {
                if (others + v * number == 0) {
                    return v;
                }
            }
            return NONE;
        }

        void addSight(int crowd, boolean wasEven) {
            sightCrowds[sights] = crowd;
            evenSights = evenSights & ~(1 << sights) | (wasEven ? 1 << sights : 0);
            sights++;
        }

        /** The least reason why one officer's deed can not be. */
        int whyNot(int officer, int deed) {
            if (!isThere(officer)) {
                return NOT_THERE;
            }
            if ((statesFor(deed) >> states[officer] & 1) == 0) {
                return WRONG_STATE;
            }
            if (deed == RISES && ranks[officer] >= GENERAL) {
                return IS_GENERAL;
            }
            return deed == SWEARS && trust == 0 ? NO_TRUST : CAN_BE;
        }

        private static int statesFor(int deed) {
            switch (deed) {
                case SWEARS:
                    return 1 << HELD;
                case GOES_HOME:
                    return 1 << WALKS;
                case BREAKS:
                    return ON_WORD;
                default:
                    return OPEN;
            }
        }

        /** The least reason why a crowd of both sides can not be exchanged. */
        int whyNoExchange(int crowd, boolean toldTwice) {
            if ((crowd & ~present) != 0) {
                return NOT_THERE;
            }
            if (toldTwice) {
                return TWICE;
            }
            if ((crowd & ~crowdIn(OPEN)) != 0) {
                return WRONG_STATE;
            }
            if (trust == 0) {
                return NO_TRUST;
            }
            return lead(crowd) == 0 ? CAN_BE : UNEVEN;
        }

        /** Does a deed that can be. */
        void carryOut(int officer, int deed) {
            if (deed == SWEARS) {
                states[officer] = WALKS;
            } else if (deed == GOES_HOME) {
                states[officer] = AT_HOME;
            } else if (deed == BREAKS) {
                states[officer] = BROKEN;
                trust = Math.max(0, trust - 1);
            } else {
                ranks[officer] = Math.min(GENERAL, ranks[officer] + 1);
            }
        }

        /** Frees a crowd whose exchange can be. */
        void setFree(int crowd) {
            for (int officer = 0; officer < OFFICERS; officer++) {
                if ((crowd & 1 << officer) != 0) {
                    states[officer] = FREE;
                }
            }
            trust = Math.min(MOST_TRUST, trust + 1);
        }
    }

    /** The signs of the months, and whether they can stand. */
    static final class Pad {
        private static final int BETWEEN = 0, NAMED = 1, OPENED = 2, IN_OURS = 3, TURNED = 4,
                IN_THEIRS = 5, WRONG = 6;

        final int[] signs = new int[SIGNS];
        int count;

        void write(int sign) {
            if (count < SIGNS) {
                signs[count] = sign;
                count++;
            }
        }

        int firstFault() {
            int stand = BETWEEN;
            for (int i = 0; i < count; i++) {
                stand = next(stand, signs[i]);
                if (stand == WRONG) {
                    return i;
                }
            }
            return stand == BETWEEN ? NONE : count;
        }

        private static int next(int stand, int sign) {
            int named = officerOf(sign);
            boolean ours = named >= 0 && named < SIDE;
            boolean theirs = named >= SIDE;
            switch (stand) {
                case BETWEEN:
                    return named >= 0 ? NAMED : sign == '(' ? OPENED : WRONG;
                case NAMED:
                    return deedOf(sign) >= 0 ? BETWEEN : WRONG;
                case OPENED:
                    return ours ? IN_OURS : WRONG;
                case IN_OURS:
                    return ours ? IN_OURS : sign == ':' ? TURNED : WRONG;
                case TURNED:
                    return theirs ? IN_THEIRS : WRONG;
                case IN_THEIRS:
                    return theirs ? IN_THEIRS : sign == ')' ? BETWEEN : WRONG;
                default:
                    return WRONG;
            }
        }

        /** The officer whose letter a sign is, or -1. */
        static int officerOf(int sign) {
            if (isWithin(sign, 'A', 'F')) {
                return sign - 'A';
            }
            return isWithin(sign, 'a', 'f') ? sign - 'a' + SIDE : -1;
        }

        /** The deed that a sign tells behind an officer's letter, or -1. */
        static int deedOf(int sign) {
            switch (sign) {
                case 's':
                    return SWEARS;
                case 'h':
                    return GOES_HOME;
                case 'b':
                    return BREAKS;
                case '+':
                    return RISES;
                default:
                    return -1;
            }
        }
    }

    /** The months on a pad without fault, act by act, up to the first that can not be. */
    static final class Months {
        final Books books = new Books();
        int acts;
        int exchanged;
        int why;
        private int named;
        private boolean inLots;
        private int crowd;
        private boolean toldTwice;

        void read(Books from, Pad pad) {
            books.copyFrom(from);
            acts = 0;
            exchanged = 0;
            why = CAN_BE;
            named = -1;
            inLots = false;
            for (int i = 0; i < pad.count && why == CAN_BE; i++) {
                take(pad.signs[i]);
            }
        }

        int failedAct() {
            return why == CAN_BE ? NONE : acts;
        }

        int failedWhy() {
            return why == CAN_BE ? NONE : why;
        }

        private void take(int sign) {
            if (sign == '(') {
                inLots = true;
                crowd = 0;
                toldTwice = false;
            } else if (sign == ')') {
                inLots = false;
                endExchange();
            } else if (inLots) {
                gather(Pad.officerOf(sign));
            } else if (named < 0) {
                named = Pad.officerOf(sign);
            } else {
                endDeed(Pad.deedOf(sign));
                named = -1;
            }
        }

        /** The sign between both lots names nobody. */
        private void gather(int officer) {
            if (officer >= 0) {
                toldTwice |= (crowd & 1 << officer) != 0;
                crowd |= 1 << officer;
            }
        }

        private void endExchange() {
            why = books.whyNoExchange(crowd, toldTwice);
            if (why == CAN_BE) {
                books.setFree(crowd);
                exchanged++;
                acts++;
            }
        }

        private void endDeed(int deed) {
            why = books.whyNot(named, deed);
            if (why == CAN_BE) {
                books.carryOut(named, deed);
                acts++;
            }
        }
    }

    /** The even exchanges among those who are open. */
    static final class Exchanges {
        /** The lots that lack the officer 0, 1 .. 5, as bits of lots. */
        private static final long[] LACKING = {
            0x5555555555555555L, 0x3333333333333333L, 0x0F0F0F0F0F0F0F0FL,
            0x00FF00FF00FF00FFL, 0x0000FFFF0000FFFFL, 0x00000000FFFFFFFFL};

        /** More than any order of an exchange. */
        private static final int NOT_FOUND = 1 << 20;

        int bestOurs;
        int bestTheirs;
        private int openOurs;
        private int openTheirs;
        private final int[] oursWorth = new int[LOTS];
        private final int[] theirsWorth = new int[LOTS];
        /** Of each lot of ours: the lots of theirs that are even with it, as bits of lots. */
        private final long[] evenWith = new long[LOTS];
        /** Of each lot of ours: the lots of theirs with which it has room for some exchanges. */
        private final long[] room = new long[LOTS];
        private final long[] nextRoom = new long[LOTS];

        void findForMost(Books books) {
            find(books, 0, true);
        }

        void findForOne(Books books, int officer) {
            find(books, 1 << officer, false);
        }

        /** Tells the best exchange found; how many it counts are those of the counted lot. */
        int answer(int what, int counted) {
            if (bestOurs == 0) {
                return NONE;
            }
            if (what == 0) {
                return Integer.bitCount(counted);
            }
            return what == 1 ? bestOurs : bestTheirs;
        }

        private void find(Books books, int wanted, boolean mostOurs) {
            weighLots(books);
            int best = NOT_FOUND;
            for (int ours = 1; ours < LOTS; ours++) {
                if ((ours & ~openOurs) == 0 && (ours & wanted) == wanted) {
                    best = Math.min(best, bestWith(ours, mostOurs));
                }
            }
            boolean found = best != NOT_FOUND;
            bestOurs = found ? best / LOTS % LOTS : 0;
            bestTheirs = found ? best % LOTS : 0;
        }

        private int bestWith(int ours, boolean mostOurs) {
            int best = NOT_FOUND;
            for (int theirs = 1; theirs < LOTS; theirs++) {
                if ((theirs & ~openTheirs) == 0 && theirsWorth[theirs] == oursWorth[ours]) {
                    best = Math.min(best, order(ours, theirs, mostOurs));
                }
            }
            return best;
        }

        /** A number that is less for the better exchange; both lots are its last digits. */
        private static int order(int ours, int theirs, boolean mostOurs) {
            int freed = Integer.bitCount(ours);
            int given = Integer.bitCount(theirs);
            int grade = mostOurs ? (SIDE - freed) * 8 + given : given * 8 + freed;
            return (grade * LOTS + ours) * LOTS + theirs;
        }

        private void weighLots(Books books) {
            openOurs = books.lotIn(OPEN, 0);
            openTheirs = books.lotIn(OPEN, 1);
            sumLots(books, 0, oursWorth);
            sumLots(books, 1, theirsWorth);
        }

        private static void sumLots(Books books, int side, int[] sums) {
            for (int i = 0; i < SIDE; i++) {
                int worth = books.worth(side * SIDE + i);
                int bit = 1 << i;
                for (int lot = 0; lot < bit; lot++) {
                    sums[lot + bit] = sums[lot] + worth;
                }
            }
        }

        int mostInARow(Books books) {
            weighLots(books);
            markEven();
            Arrays.fill(room, -1L);
            int most = 0;
            for (int n = 1; n <= SIDE; n++) {
                makeRoomForOneMore();
                if ((room[openOurs] >>> openTheirs & 1L) == 1L) {
                    most = n;
                }
            }
            return most;
        }

        private void markEven() {
            for (int ours = 0; ours < LOTS; ours++) {
                evenWith[ours] = ours != 0 && (ours & ~openOurs) == 0 ? lotsEvenWith(ours) : 0L;
            }
        }

        private long lotsEvenWith(int ours) {
            long found = 0L;
            for (int theirs = 1; theirs < LOTS; theirs++) {
                if ((theirs & ~openTheirs) == 0 && theirsWorth[theirs] == oursWorth[ours]) {
                    found |= 1L << theirs;
                }
            }
            return found;
        }

        /**
         * Two lots have room for n exchanges if they have without one officer; or if they are even
         * themselves and without one of ours have room for n - 1: what these leave over, with that
         * one in it, is even too, and so the last exchange.
         */
        private void makeRoomForOneMore() {
            for (int ours = 0; ours < LOTS; ours++) {
                long roomForLess = 0L;
                long roomForAll = 0L;
                for (int i = 0; i < SIDE; i++) {
                    int rest = ours & ~(1 << i);
                    if (rest != ours) {
                        roomForLess |= room[rest];
                        roomForAll |= nextRoom[rest];
                    }
                }
                nextRoom[ours] = withGreaterLots(roomForAll | evenWith[ours] & roomForLess);
            }
            System.arraycopy(nextRoom, 0, room, 0, LOTS);
        }

        private static long withGreaterLots(long lots) {
            long all = lots;
            for (int i = 0; i < SIDE; i++) {
                all |= (all & LACKING[i]) << (1 << i);
            }
            return all;
        }
    }

    /** The worlds, of nobody or of one officer of another rank, by which all sights are so. */
    static final class Worlds {
        private static final int MOST = 1 + OFFICERS * (RANKS - 1), NOBODY = -1;

        int count;
        int bestPair;
        int bestLeft;
        private final int[] who = new int[MOST];
        private final int[] had = new int[MOST];
        private final int[] leads = new int[SIGHTS];

        void find(Books books) {
            for (int i = 0; i < books.sights; i++) {
                leads[i] = books.lead(books.sightCrowds[i]);
            }
            count = 0;
            addIfFits(books, NOBODY, 0);
            for (int officer = 0; officer < OFFICERS; officer++) {
                for (int rank = 0; rank < RANKS; rank++) {
                    if (books.isThere(officer) && books.ranks[officer] != rank) {
                        addIfFits(books, officer, rank);
                    }
                }
            }
        }

        private void addIfFits(Books books, int officer, int rank) {
            int more = officer == NOBODY ? 0 : books.rates[rank] - books.worth(officer);
            for (int i = 0; i < books.sights; i++) {
                int lead = leads[i];
                if (officer != NOBODY && (books.sightCrowds[i] >> officer & 1) == 1) {
                    lead += officer < SIDE ? more : -more;
                }
                if ((lead == 0) != ((books.evenSights >> i & 1) == 1)) {
                    return;
                }
            }
            if (count < MOST) {
                who[count] = officer;
                had[count] = rank;
                count++;
            }
        }

        int forgers() {
            int bits = 0;
            for (int i = 0; i < count; i++) {
                if (who[i] != NOBODY) {
                    bits |= 1 << who[i];
                }
            }
            return bits;
        }

        /** Worlds of one officer stand by his rank, the least first. */
        int leastRank(int officer) {
            for (int i = 0; i < count; i++) {
                if (who[i] == officer) {
                    return had[i];
                }
            }
            return NONE;
        }

        void choosePair(Books books) {
            bestPair = NONE;
            bestLeft = NONE;
            for (int ours = 0; ours < SIDE && count > 0; ours++) {
                for (int theirs = SIDE; theirs < OFFICERS; theirs++) {
                    if (books.isThere(ours) && books.isThere(theirs)) {
                        offerPair(ours * OFFICERS + theirs, mostLeft(books, ours, theirs));
                    }
                }
            }
        }

        private void offerPair(int pair, int left) {
            if (bestPair == NONE || left < bestLeft) {
                bestPair = pair;
                bestLeft = left;
            }
        }

        private int mostLeft(Books books, int ours, int theirs) {
            int evens = 0;
            for (int i = 0; i < count; i++) {
                if (worthIn(books, i, ours) == worthIn(books, i, theirs)) {
                    evens++;
                }
            }
            return Math.max(evens, count - evens);
        }

        private int worthIn(Books books, int world, int officer) {
            return who[world] == officer ? books.rates[had[world]] : books.worth(officer);
        }
    }

    /** Words broken by chance, in whole ways out of 10 for each officer. */
    static final class Breaks {
        /** Ways by which 0, 1 .. 12 words are broken. */
        private final long[] ways = new long[OFFICERS + 1];
        private int officers;
        private long allWays;

        void spread(int number, int tenths) {
            officers = Math.min(number, OFFICERS);
            allWays = 1L;
            Arrays.fill(ways, 0L);
            ways[0] = 1L;
            for (int n = 1; n <= officers; n++) {
                for (int words = n; words > 0; words--) {
                    ways[words] = ways[words] * (BASIS - tenths) + ways[words - 1] * tenths;
                }
                ways[0] *= BASIS - tenths;
                allWays *= BASIS;
            }
        }

        long waysToKeep(int trust, int least) {
            long sum = 0L;
            for (int words = 0; words <= officers; words++) {
                if (Math.max(0, trust - words) >= least) {
                    sum += ways[words];
                }
            }
            return sum;
        }

        long trustSum(int trust) {
            long sum = 0L;
            for (int words = 0; words <= officers; words++) {
                sum += ways[words] * Math.max(0, trust - words);
            }
            return sum;
        }

        long lowestTerms(long upper, int part) {
            long divisor = commonDivisor(upper, allWays);
            if (divisor == 0L) {
                return 0L;
            }
            return (part == 0 ? upper : allWays) / divisor;
        }

        /** Euclid's steps on numbers under 10 to the 14 are fewer than 100. */
        private static long commonDivisor(long one, long other) {
            long a = one;
            long b = other;
            for (int step = 0; step < 100 && b != 0L; step++) {
                long left = a % b;
                a = b;
                b = left;
            }
            return a;
        }
    }

    /** Sets of a side's officers who break their word, by which none does better alone. */
    static final class Rests {
        int sets;
        int fewest;
        int most;

        void count(int officers, int gain, int cost) {
            sets = 0;
            fewest = NONE;
            most = NONE;
            int setsOfSize = 1;
            for (int size = 0; size <= officers; size++) {
                boolean nobodyStops = size == 0 || gain - cost * size >= 0;
                boolean nobodyJoins = size == officers || gain - cost * (size + 1) <= 0;
                if (nobodyStops && nobodyJoins) {
                    sets += setsOfSize;
                    fewest = fewest == NONE ? size : fewest;
                    most = size;
                }
                setsOfSize = setsOfSize * (officers - size) / (size + 1);
            }
        }
    }

    /** Acts by draws, on books of its own. */
    static final class Year {
        private static final int FACTOR = 75, STEP = 74, MODULUS = 65537, KINDS = 6;

        final Books books = new Books();
        int exchanged;
        int brokenWords;

        void pass(Books from, int seed, int acts) {
            books.copyFrom(from);
            exchanged = 0;
            brokenWords = 0;
            int x = seed;
            for (int n = 0; n < acts; n++) {
                x = (FACTOR * x + STEP) % MODULUS;
                draw(x);
            }
        }

        private void draw(int x) {
            int officer = x % OFFICERS;
            int kind = x / OFFICERS % KINDS;
            if (kind <= RISES) {
                tryDeed(officer, kind);
            } else {
                int other = x / (OFFICERS * KINDS) % SIDE;
                tryExchange(1 << officer | 1 << (officer < SIDE ? other + SIDE : other));
            }
        }

        private void tryDeed(int officer, int deed) {
            if (books.whyNot(officer, deed) == CAN_BE) {
                books.carryOut(officer, deed);
                brokenWords += deed == BREAKS ? 1 : 0;
            }
        }

        private void tryExchange(int crowd) {
            if (books.whyNoExchange(crowd, false) == CAN_BE) {
                books.setFree(crowd);
                exchanged++;
            }
        }
    }
}
