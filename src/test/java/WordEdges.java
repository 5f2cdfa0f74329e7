/** Sights and forged ranks, words broken by chance and at rest, years, images: promises 19 to 29. */
final class WordEdges {
    private static final String TERMS = "Terms";

    private WordEdges() {
    }

    static void run() {
        sightTerms();
        sightPromises();
        chanceTerms();
        YearEdges.run();
        chancePromises();
        imagePromises();
    }

    private static void sightTerms() {
        Edges.sentence(TERMS, "SIGHTS, 8 at most: a lot of ours, one of theirs (both not empty, of who is there) "
                + "were even once, or not.", () -> {
                    ParoleLedger x = Edges.with("2", "2");
                    x.seen(1, 1, true);
                    Edges.due("forged(0): even once", x.forged(0), 1);
                    x.forget();
                    x.seen(1, 1, false);
                    Edges.due("forged(0): or not", x.forged(0), 10);
                    for (int n = 2; n <= 8; n++) {
                        Edges.due("seen(1, 1, false)", x.seen(1, 1, false), n);
                    }
                    Edges.due("seen(1, 1, false): a ninth", x.seen(1, 1, false), Edges.FULL);
                    Edges.due("forged(0)", x.forged(0), 10);
                    Edges.due("seen(0, 1, true)", x.seen(0, 1, true), Edges.UNKNOWN);
                    Edges.due("seen(1, 0, true)", x.seen(1, 0, true), Edges.UNKNOWN);
                    Edges.due("seen(0, 0, true)", x.seen(0, 0, true), Edges.UNKNOWN);
                });
        Edges.sentence(TERMS, "FORGED: one OFFICER, or nobody, had another RANK then than he has (RATES as now): "
                + "worlds (of nobody, of one and a RANK) by which all SIGHTS are so", WordEdges::worlds);
        Edges.sentence(TERMS, "(who is there no more counts nothing in them):", WordEdges::thereNoMore);
        Edges.sentence(TERMS, "how many; OFFICERS in some, as bits; the least RANK that one had "
                + "(NONE: he is in none).", () -> {
                    ParoleLedger x = Edges.with("0", "2.5");
                    Edges.due("rank(0): not his own, the least", x.rank(0), 1);
                    Edges.due("rank(6)", x.rank(6), 0);
                    x.rate(4, 4);
                    x.seen(1, 1, true);
                    Edges.due("forged(0): A was 2 or 4, a was 0", x.forged(0), 3);
                    Edges.due("forged(1)", x.forged(1), 65);
                    Edges.due("rank(0)", x.rank(0), 2);
                    Edges.due("rank(6)", x.rank(6), 0);
                    Edges.due("rank(8): in none", x.rank(8), Edges.NONE);
                    x.seen(1, 1, false);
                    Edges.due("forged(0): none", x.forged(0), 0);
                    Edges.due("forged(1): none", x.forged(1), 0);
                    Edges.due("rank(0): none", x.rank(0), Edges.NONE);
                });
        Edges.sentence(TERMS, "WEIGH: the two, one of ours, one of theirs, to be called even or not next "
                + "(12 times the one's number and the other one's), so that, whichever it is, "
                + "fewest worlds are left at the most: the least; how many; NONE.", WordEdges::whomToWeigh);
    }

    private static void worlds() {
        ParoleLedger x = new ParoleLedger();
        for (int officer = 0; officer < 12; officer++) {
            Edges.due("forged(0) of " + officer, x.forged(0), 1 + 5 * officer);
            Edges.due("forged(1) of " + officer, x.forged(1), (1 << officer) - 1);
            x.officer(officer, officer % 6);
        }
        Edges.due("forged(0) of all", x.forged(0), 61);
        Edges.due("forged(1) of all", x.forged(1), 4095);
        ParoleLedger y = Edges.with("2", "3");
        y.seen(1, 1, true);
        Edges.due("forged(0): A was 3, or a was 2", y.forged(0), 2);
        y.rate(3, 4);
        Edges.due("forged(0): rates as now, nobody too", y.forged(0), 3);
        y.rate(3, 5);
        Edges.due("forged(0): rates as now", y.forged(0), 2);
        ParoleLedger z = Edges.with("22", "22");
        z.seen(1, 1, true);
        z.seen(2, 2, true);
        Edges.due("forged(0): nobody alone", z.forged(0), 1);
        Edges.due("forged(1): nobody alone", z.forged(1), 0);
        Edges.act(z, "A+");
        Edges.due("forged(0): A has another rank now", z.forged(0), 2);
        Edges.due("rank(0): he had the old one", z.rank(0), 2);
        Edges.act(z, "B+");
        Edges.due("forged(0): not two at once", z.forged(0), 0);
    }

    private static void thereNoMore() {
        ParoleLedger x = Edges.with("22", "3");
        x.seen(3, 1, true);
        Edges.due("forged(0): 4 and 4 for 8", x.forged(0), 1);
        x.leave(1);
        Edges.due("forged(0): 4 for 8", x.forged(0), 2);
        Edges.due("forged(1): not he who left", x.forged(1), 65);
        Edges.due("told(3): the sight stays", x.told(3), 1);
        x.leave(6);
        Edges.due("forged(0): 4 for nothing", x.forged(0), 0);
        x.leave(0);
        Edges.due("forged(0): nothing for nothing", x.forged(0), 1);
        Edges.due("forged(1)", x.forged(1), 0);
    }

    private static void whomToWeigh() {
        weigh(Edges.with("2", "2"), 6, 10);
        weigh(Edges.with(".....2", ".....2"), 71, 10);
        weigh(Edges.with("2", ".....2"), 11, 10);
        weigh(Edges.with(".....2", "2"), 66, 10);
        weigh(Edges.with("23", "32"), 7, 11);
        weigh(Edges.with("32", "32"), 6, 11);
        ParoleLedger x = Edges.with("2", "2");
        x.seen(1, 1, true);
        weigh(x, 6, 1);
        x.seen(1, 1, false);
        weigh(x, Edges.NONE, Edges.NONE);
        ParoleLedger y = Edges.with("23", "32");
        y.seen(1, 1, true);
        y.seen(1, 2, true);
        Edges.due("forged(0): a was 2", y.forged(0), 1);
        weigh(y, 6, 1);
        weigh(Edges.with("2", ""), Edges.NONE, Edges.NONE);
        weigh(Edges.with("", "2"), Edges.NONE, Edges.NONE);
        weigh(new ParoleLedger(), Edges.NONE, Edges.NONE);
    }

    private static void weigh(ParoleLedger x, int which, int many) {
        Edges.due("weigh(0)", x.weigh(0), which);
        Edges.due("weigh(1)", x.weigh(1), many);
    }

    private static void sightPromises() {
        Edges.sentence("Promise 19", "A SIGHT more: how many.", () -> {
            ParoleLedger x = Edges.with("2", "2");
            for (int n = 1; n <= 8; n++) {
                Edges.due("seen(1, 1, true)", x.seen(1, 1, n % 2 == 0), n);
                Edges.due("told(3)", x.told(3), n);
            }
        });
        Edges.sentence("Promise 19", "UNKNOWN: an empty lot, one who is not there; FULL.", WordEdges::refusedSights);
        Edges.sentence("Promise 19", "(Lots as of home().)", () -> {
            ParoleLedger x = Edges.with("2....3", "2....3");
            Edges.due("seen(32, 32, true)", x.seen(32, 32, true), 1);
            Edges.due("forged(1): not F and f", x.forged(1), 65);
            Edges.due("seen(1, 1, true)", x.seen(1, 1, true), 2);
            Edges.due("forged(1): nobody", x.forged(1), 0);
            Edges.due("seen(33, 33, true)", x.seen(33, 33, true), 3);
            Edges.due("seen(1, 64, true)", x.seen(1, 64, true), Edges.UNKNOWN);
            Edges.due("seen(1, 2048, true)", x.seen(1, 2048, true), Edges.UNKNOWN);
        });
        Edges.sentence("Promise 20", "SIGHTS go: how many there were.", () -> {
            ParoleLedger x = Edges.with("2", "2");
            Edges.due("forget() of none", x.forget(), 0);
            for (int n = 0; n < 8; n++) {
                x.seen(1, 1, true);
            }
            Edges.due("forged(0)", x.forged(0), 1);
            Edges.due("forget() of 8", x.forget(), 8);
            Edges.due("forget() again", x.forget(), 0);
            Edges.due("told(3)", x.told(3), 0);
            Edges.due("forged(0)", x.forged(0), 11);
            for (int n = 1; n <= 8; n++) {
                Edges.due("seen(1, 1, false)", x.seen(1, 1, false), n);
                Edges.due("forged(0): none of the old ones", x.forged(0), 10);
            }
        });
        Edges.sentence("Promise 21", "FORGED: how many (what = 0), OFFICERS (1).", () -> {
            Edges.due("forged(0) of nobody there", new ParoleLedger().forged(0), 1);
            Edges.due("forged(1) of nobody there", new ParoleLedger().forged(1), 0);
            ParoleLedger x = Edges.with(".....2", ".....2");
            Edges.due("forged(0)", x.forged(0), 11);
            Edges.due("forged(1)", x.forged(1), 2048 + 32);
        });
        Edges.sentence("Promise 21", "OUTSIDE.", () -> {
            for (int what : Edges.outside(0, 1)) {
                Edges.due("forged(" + what + ")", Edges.with("2", "2").forged(what), Edges.OUTSIDE);
            }
        });
        Edges.sentence("Promise 22", "FORGED: the RANK; NONE.", () -> {
            for (int rank = 0; rank < 6; rank++) {
                ParoleLedger x = Edges.with(rank == 3 ? "2" : "3", "" + rank);
                Edges.due("rank(6) of rank " + rank, x.rank(6), rank == 0 ? 1 : 0);
                x.seen(1, 1, true);
                Edges.due("rank(0), even with rank " + rank, x.rank(0), rank);
                x.seen(1, 1, false);
                Edges.due("rank(0), in no world", x.rank(0), Edges.NONE);
            }
        });
        Edges.sentence("Promise 22", "UNKNOWN.", () -> {
            ParoleLedger x = Edges.with("2", "2");
            for (int officer : Edges.outside(0, 11)) {
                Edges.due("rank(" + officer + ")", x.rank(officer), Edges.UNKNOWN);
            }
            Edges.due("rank(1): not there", x.rank(1), Edges.UNKNOWN);
            x.leave(0);
            Edges.due("rank(0): he left", x.rank(0), Edges.UNKNOWN);
        });
        Edges.sentence("Promise 23",
                "WEIGH: which (what = 0), how many (1); NONE: there are no such two, or no worlds.", () -> {
                    weigh(Edges.with("..2", "...3"), 33, 9);
                    weigh(Edges.with("222222", ""), Edges.NONE, Edges.NONE);
                    weigh(Edges.with("", "222222"), Edges.NONE, Edges.NONE);
                    ParoleLedger x = Edges.with("2", "2");
                    x.seen(1, 1, true);
                    x.seen(1, 1, false);
                    weigh(x, Edges.NONE, Edges.NONE);
                });
        Edges.sentence("Promise 23", "OUTSIDE.", () -> {
            for (ParoleLedger x : new ParoleLedger[] {new ParoleLedger(), Edges.with("2", "2")}) {
                for (int what : Edges.outside(0, 1)) {
                    Edges.due("weigh(" + what + ")", x.weigh(what), Edges.OUTSIDE);
                }
            }
        });
    }

    private static void refusedSights() {
        ParoleLedger x = Edges.with("2.2", "2.2");
        for (int lot = 0; lot < 64; lot++) {
            boolean fits = lot == 1 || lot == 4 || lot == 5;
            if (!fits) {
                Edges.due("seen(" + lot + ", 1, true)", x.seen(lot, 1, true), Edges.UNKNOWN);
                Edges.due("seen(1, " + lot + ", true)", x.seen(1, lot, true), Edges.UNKNOWN);
            }
        }
        for (int lot : Edges.outside(0, 63)) {
            Edges.due("seen(" + lot + ", 1, true)", x.seen(lot, 1, true), Edges.UNKNOWN);
            Edges.due("seen(1, " + lot + ", true)", x.seen(1, lot, true), Edges.UNKNOWN);
        }
        Edges.due("told(3)", x.told(3), 0);
        for (int n = 1; n <= 8; n++) {
            Edges.due("seen(5, 4, true)", x.seen(5, 4, true), n);
        }
        Edges.due("seen(5, 4, true)", x.seen(5, 4, true), Edges.FULL);
        Edges.due("seen(2, 4, true)", x.seen(2, 4, true), Edges.UNKNOWN);
        ParoleLedger y = Edges.with("2", "2");
        y.leave(0);
        Edges.due("seen(1, 1, true): he left", y.seen(1, 1, true), Edges.UNKNOWN);
    }

    private static void chanceTerms() {
        Edges.sentence(TERMS, "BREAK: each who WALKS or is at HOME breaks his word with t tenths (0 to 10), "
                + "each by himself: that TRUST is k (0 to 9) or more then; the mean of TRUST.", WordEdges::breaks);
        Edges.sentence(TERMS, "RESTS: each of a side (0 ours, 1 theirs) who WALKS or is at HOME may break his word: "
                + "who does gains g (0 to 99) less c (0 to 99) for each of these who does, himself too; "
                + "who does not, nothing:", WordEdges::gains);
        Edges.sentence(TERMS, "sets of who do by which none of these has more by doing otherwise alone: "
                + "how many; the fewest who do in one; the most; NONE.", () -> {
                    ParoleLedger x = Edges.act(Edges.with("222222", ""), "AsBsCsDsEsFs");
                    rests(x, 0, 0, 0, 64, 0, 6);
                    rests(x, 0, 99, 0, 1, 6, 6);
                    rests(x, 0, 0, 99, 1, 0, 0);
                    rests(x, 0, 0, 1, 1, 0, 0);
                    rests(x, 0, 1, 0, 1, 6, 6);
                    rests(x, 0, 99, 99, 7, 0, 1);
                    rests(x, 0, 99, 33, 35, 2, 3);
                    rests(x, 0, 98, 33, 15, 2, 2);
                    rests(x, 0, 99, 16, 1, 6, 6);
                    rests(x, 0, 96, 16, 7, 5, 6);
                    rests(x, 0, 95, 16, 6, 5, 5);
                    rests(x, 1, 50, 1, 1, 0, 0);
                });
    }

    private static void fraction(ParoleLedger x, int t, int k, long upper, long lower) {
        Edges.due("broken(" + t + ", " + k + ", 0)", x.broken(t, k, 0), upper);
        Edges.due("broken(" + t + ", " + k + ", 1)", x.broken(t, k, 1), lower);
    }

    private static void breaks() {
        for (int state = 0; state < 5; state++) {
            ParoleLedger x = Edges.act(Edges.with("2", "2"), Edges.into(state, 'A', 'a'));
            x.trust(5);
            boolean onWord = state == Edges.WALKS || state == Edges.AT_HOME;
            fraction(x, 3, 5, onWord ? 7 : 1, onWord ? 10 : 1);
            fraction(x, 3, -1, onWord ? 47 : 5, onWord ? 10 : 1);
        }
        ParoleLedger y = Edges.act(Edges.with("2", "2"), "Asas");
        for (int k = 0; k <= 9; k++) {
            fraction(y, 0, k, k <= 5 ? 1 : 0, 1);
            fraction(y, 10, k, k <= 3 ? 1 : 0, 1);
            fraction(y, 3, k, k <= 3 ? 1 : k == 4 ? 91 : k == 5 ? 49 : 0, k == 4 || k == 5 ? 100 : 1);
        }
        fraction(y, 0, -1, 5, 1);
        fraction(y, 10, -1, 3, 1);
        fraction(y, 1, -1, 24, 5);
        y.trust(0);
        fraction(y, 5, -1, 0, 1);
        fraction(y, 5, 0, 1, 1);
        fraction(y, 5, 1, 0, 1);
        y.trust(1);
        fraction(y, 5, -1, 1, 4);
        fraction(y, 10, 0, 1, 1);
        ParoleLedger z = Edges.act(Edges.with("222222", "222222"), "AsBsCsDsEsFsasbscsdsesfs");
        z.trust(9);
        fraction(z, 1, 9, 282429536481L, 1000000000000L);
        fraction(z, 5, -1, 12381, 4096);
        fraction(z, 10, -1, 0, 1);
        fraction(z, 10, 1, 0, 1);
        fraction(z, 0, 9, 1, 1);
    }

    private static void rests(ParoleLedger x, int side, int g, int c, int... due) {
        for (int what = 0; what < 3; what++) {
            Edges.due("rests(" + side + ", " + g + ", " + c + ", " + what + ")", x.rests(side, g, c, what), due[what]);
        }
    }

    private static void gains() {
        for (int state = 0; state < 5; state++) {
            boolean onWord = state == Edges.WALKS || state == Edges.AT_HOME;
            ParoleLedger x = Edges.act(Edges.with("2", "2"), Edges.into(state, 'A', 'a'));
            rests(x, 0, 9, 9, onWord ? 2 : 1, 0, onWord ? 1 : 0);
            rests(x, 1, 9, 9, 1, 0, 0);
            ParoleLedger y = Edges.act(Edges.with("2", "2"), Edges.into(state, 'a', 'A'));
            rests(y, 1, 9, 9, onWord ? 2 : 1, 0, onWord ? 1 : 0);
            rests(y, 0, 9, 9, 1, 0, 0);
        }
        ParoleLedger z = Edges.act(Edges.with("22", "222"), "AsBsasbscs");
        rests(z, 0, 9, 10, 1, 0, 0);
        rests(z, 0, 11, 10, 2, 1, 1);
        rests(z, 0, 20, 10, 3, 1, 2);
        rests(z, 1, 20, 10, 6, 1, 2);
        rests(z, 1, 30, 10, 4, 2, 3);
        rests(z, 1, 31, 10, 1, 3, 3);
    }

    private static void chancePromises() {
        Edges.sentence("Promise 24", "BREAK: k or more (k 0 to 9), the mean (k = -1).", () -> {
            ParoleLedger x = Edges.act(Edges.with("2", "2"), "As");
            x.trust(9);
            fraction(x, 5, 9, 1, 2);
            fraction(x, 5, 8, 1, 1);
            fraction(x, 5, 0, 1, 1);
            fraction(x, 5, -1, 17, 2);
            Edges.due("told(2): nothing is broken in fact", x.told(2), 9);
            Edges.due("told(40)", x.told(40), Edges.WALKS);
            fraction(new ParoleLedger(), 10, 5, 1, 1);
            fraction(new ParoleLedger(), 10, 6, 0, 1);
            fraction(new ParoleLedger(), 10, -1, 5, 1);
        });
        Edges.sentence("Promise 24", "OUTSIDE.", () -> {
            ParoleLedger x = Edges.act(Edges.with("2", "2"), "As");
            for (int t : Edges.outside(0, 10)) {
                Edges.due("broken(" + t + ", 0, 0)", x.broken(t, 0, 0), Edges.GONE_OUTSIDE);
            }
            for (int k : Edges.outside(-1, 9)) {
                Edges.due("broken(5, " + k + ", 0)", x.broken(5, k, 0), Edges.GONE_OUTSIDE);
            }
            for (int part : Edges.outside(0, 1)) {
                Edges.due("broken(5, 0, " + part + ")", x.broken(5, 0, part), Edges.GONE_OUTSIDE);
            }
        });
        Edges.sentence("Promise 25", "RESTS: how many (what = 0), the fewest (1), the most (2); NONE.", () -> {
            rests(new ParoleLedger(), 0, 0, 0, 1, 0, 0);
            rests(new ParoleLedger(), 1, 99, 99, 1, 0, 0);
            ParoleLedger x = Edges.act(Edges.with("2222", "22"), "AsBsBhDsbs");
            rests(x, 0, 0, 0, 8, 0, 3);
            rests(x, 1, 0, 0, 2, 0, 1);
            rests(x, 0, 4, 2, 6, 1, 2);
        });
        Edges.sentence("Promise 25", "OUTSIDE.", () -> {
            ParoleLedger x = Edges.act(Edges.with("2", "2"), "As");
            for (int side : Edges.outside(0, 1)) {
                Edges.due("rests(" + side + ", 0, 0, 0)", x.rests(side, 0, 0, 0), Edges.OUTSIDE);
            }
            for (int stake : Edges.outside(0, 99)) {
                Edges.due("rests(0, " + stake + ", 0, 0)", x.rests(0, stake, 0, 0), Edges.OUTSIDE);
                Edges.due("rests(0, 0, " + stake + ", 0)", x.rests(0, 0, stake, 0), Edges.OUTSIDE);
            }
            for (int what : Edges.outside(0, 2)) {
                Edges.due("rests(0, 0, 0, " + what + ")", x.rests(0, 0, 0, what), Edges.OUTSIDE);
            }
        });
    }

    private static void imagePromises() {
        Edges.sentence("Promise 27", "All but the PAD is kept in an IMAGE (0, 1): 1.", WordEdges::keeping);
        Edges.sentence("Promise 27", "OUTSIDE.", () -> {
            ParoleLedger x = new ParoleLedger();
            for (int k : Edges.outside(0, 1)) {
                Edges.due("image(" + k + ")", x.image(k), Edges.OUTSIDE);
            }
            Edges.due("restore(0): nothing was kept", x.restore(0), Edges.STATE);
            Edges.due("restore(1): nothing was kept", x.restore(1), Edges.STATE);
        });
        Edges.sentence("Promise 28", "It is as it was when it was kept: 1.", WordEdges::restoring);
        Edges.sentence("Promise 28", "OUTSIDE; STATE: it was not.", () -> {
            ParoleLedger x = new ParoleLedger();
            for (int k : Edges.outside(0, 1)) {
                Edges.due("restore(" + k + ")", x.restore(k), Edges.OUTSIDE);
            }
            Edges.due("restore(0)", x.restore(0), Edges.STATE);
            Edges.due("restore(1)", x.restore(1), Edges.STATE);
            x.image(1);
            Edges.due("restore(0): the other one was", x.restore(0), Edges.STATE);
            Edges.due("restore(1)", x.restore(1), 1);
            Edges.due("restore(0): still not", x.restore(0), Edges.STATE);
        });
        Edges.sentence("Promise 29", "0 signs, 1 OFFICERS (bits), 2 TRUST, 3 SIGHTS, 10 and a RANK: its RATE, "
                + "20 and an OFFICER who is there: his RANK, 40 and an OFFICER who is there: what he is.",
                WordEdges::telling);
        Edges.sentence("Promise 29", "OUTSIDE.", () -> {
            ParoleLedger x = Edges.with("222222", "222222");
            for (int what = -40; what < 100; what++) {
                boolean fits = what >= 0 && what <= 3 || what >= 10 && what <= 15 || what >= 20 && what <= 31
                        || what >= 40 && what <= 51;
                Edges.due("whether told(" + what + ") is refused", x.told(what) == Edges.OUTSIDE ? 1 : 0, fits ? 0 : 1);
            }
            for (int what : Edges.outside(-40, 99)) {
                Edges.due("told(" + what + ")", x.told(what), Edges.OUTSIDE);
            }
            x.leave(0);
            x.leave(11);
            for (int what : new int[] {20, 31, 40, 51}) {
                Edges.due("told(" + what + "): he left", x.told(what), Edges.OUTSIDE);
            }
        });
    }

    /** Officers, ranks, states, rates, trust and sights of one kind or another. */
    private static ParoleLedger first() {
        ParoleLedger x = Edges.act(Edges.with("23", "2"), "AsAhBs");
        x.rate(2, 5);
        x.trust(7);
        x.seen(1, 1, true);
        return x;
    }

    private static void changeAll(ParoleLedger x) {
        x.officer(0, 4);
        x.officer(4, 0);
        x.leave(1);
        x.rate(2, 9);
        x.rate(5, 1);
        x.trust(2);
        x.forget();
        x.seen(16, 1, false);
        x.seen(17, 1, false);
    }

    private static void keeping() {
        for (int k = 0; k < 2; k++) {
            ParoleLedger x = first();
            Edges.write(x, "As");
            Edges.due("image(" + k + ")", x.image(k), 1);
            changeAll(x);
            x.say('B');
            x.say('h');
            Edges.due("restore(" + k + ")", x.restore(k), 1);
            Edges.due("told(0): the pad stays", x.told(0), 4);
            x.wipe();
            Edges.same("restore(" + k + ")", Edges.all(x), Edges.all(first()));
        }
        ParoleLedger y = new ParoleLedger();
        Edges.due("image(0) of nobody", y.image(0), 1);
        changeAll(y);
        Edges.due("restore(0) of nobody", y.restore(0), 1);
        Edges.same("restore(0) of nobody", Edges.all(y), Edges.all(new ParoleLedger()));
    }

    private static void restoring() {
        ParoleLedger x = first();
        String one = Edges.all(x);
        x.image(0);
        changeAll(x);
        String other = Edges.all(x);
        x.image(1);
        x.restore(0);
        Edges.same("restore(0)", Edges.all(x), one);
        changeAll(x);
        x.restore(0);
        Edges.same("restore(0) a second time", Edges.all(x), one);
        ParoleLedger y = first();
        y.image(0);
        changeAll(y);
        y.image(1);
        y.restore(0);
        Edges.due("restore(1)", y.restore(1), 1);
        Edges.same("restore(1)", Edges.all(y), other);
        Edges.due("image(0) anew", y.image(0), 1);
        y.trust(0);
        y.restore(0);
        Edges.same("restore(0) of the later one", Edges.all(y), other);
    }

    private static void telling() {
        ParoleLedger x = new ParoleLedger();
        Edges.due("told(0) at first", x.told(0), 0);
        Edges.due("told(1) at first", x.told(1), 0);
        Edges.due("told(2) at first", x.told(2), 5);
        Edges.due("told(3) at first", x.told(3), 0);
        for (int officer = 0; officer < 12; officer++) {
            x.officer(officer, (officer + 3) % 6);
            Edges.due("told(20 and " + officer + ")", x.told(20 + officer), (officer + 3) % 6);
            Edges.due("told(40 and " + officer + ")", x.told(40 + officer), Edges.HELD);
        }
        for (int rank = 0; rank < 6; rank++) {
            x.rate(rank, 90 + rank);
            Edges.due("told(10 and " + rank + ")", x.told(10 + rank), 90 + rank);
        }
        Edges.due("told(1)", x.told(1), 4095);
        for (int n = 0; n < 8; n++) {
            x.seen(63, 63, false);
        }
        Edges.due("told(3)", x.told(3), 8);
        Edges.act(x, "fsfhAs");
        Edges.due("told(51)", x.told(51), Edges.AT_HOME);
        Edges.due("told(40)", x.told(40), Edges.WALKS);
        Edges.write(x, "~".repeat(60));
        Edges.due("told(0)", x.told(0), 60);
        x.trust(0);
        Edges.due("told(2)", x.told(2), 0);
    }
}
