/** The best exchanges, exchanges one behind another, even rates: promises 14 to 18. */
final class ExchangeEdges {
    private static final String TERMS = "Terms";

    private ExchangeEdges() {
    }

    static void run() {
        homeTerms();
        otherTerms();
        bestPromises();
        otherPromises();
    }

    private static void home(ParoleLedger x, int many, int ours, int theirs) {
        Edges.due("home(0)", x.home(0), many);
        Edges.due("home(1)", x.home(1), ours);
        Edges.due("home(2)", x.home(2), theirs);
    }

    private static void noHome(ParoleLedger x) {
        home(x, Edges.NONE, Edges.NONE, Edges.NONE);
    }

    private static void bring(ParoleLedger x, int officer, int many, int ours, int theirs) {
        Edges.due("bring(" + officer + ", 0)", x.bring(officer, 0), many);
        Edges.due("bring(" + officer + ", 1)", x.bring(officer, 1), ours);
        Edges.due("bring(" + officer + ", 2)", x.bring(officer, 2), theirs);
    }

    /** A with B is as good as b, A with C as a: 1 and 2 as 3, 1 and 4 as 5. */
    private static ParoleLedger crossed() {
        return Edges.rated(Edges.with("012", "34"), 1, 2, 4, 5, 3);
    }

    private static void homeTerms() {
        Edges.sentence(TERMS, "HOME: the exchange (a lot of OPEN ours, one of OPEN theirs, both not empty, even; "
                + "TRUST is no matter)", ExchangeEdges::whichExchanges);
        Edges.sentence(TERMS, "by which most of ours come FREE: how many; the lot of ours, of theirs", () -> {
            home(Edges.with("300", "311"), 3, 7, 3);
            home(Edges.with("5000", "5..01"), 4, 15, 25);
            home(Edges.with("555555", "555555"), 6, 63, 63);
            home(Edges.with(".....0", ".....0"), 1, 32, 32);
        });
        Edges.sentence(TERMS, "(of as many the fewest of theirs, then the least bits of ours, then of theirs); NONE.",
                () -> {
                    home(Edges.with("..2222", "..3322"), 4, 60, 12);
                    home(Edges.rated(Edges.with("012", "344"), 2, 4, 8, 10, 3), 2, 5, 1);
                    home(Edges.with("222", "22"), 2, 3, 3);
                    home(Edges.with(".2.2.2", "...2"), 1, 2, 8);
                    home(crossed(), 2, 3, 2);
                    home(Edges.with("2", ".222"), 1, 1, 2);
                    home(Edges.with("2", "11.11"), 1, 1, 3);
                    noHome(Edges.with("1", "0"));
                });
        Edges.sentence(TERMS, "FOR: the exchange in which a told one of ours is, by fewest of theirs, "
                + "then by fewest of ours (then least bits of ours, of theirs): how many of theirs; lots; NONE.",
                ExchangeEdges::forOne);
    }

    private static void whichExchanges() {
        for (int state = 0; state < 5; state++) {
            ParoleLedger x = Edges.act(Edges.with("2..", ".2...2"), Edges.into(state, 'A', 'f'));
            home(x, state < Edges.FREE ? 1 : Edges.NONE, state < Edges.FREE ? 1 : Edges.NONE,
                    state < Edges.FREE ? 2 : Edges.NONE);
            ParoleLedger y = Edges.act(Edges.with("22", "2"), Edges.into(state, 'a', 'B'));
            Edges.due("home(0), theirs in state " + state, y.home(0), state < Edges.FREE ? 1 : Edges.NONE);
        }
        noHome(new ParoleLedger());
        noHome(Edges.with("222222", ""));
        noHome(Edges.with("", "222222"));
        noHome(Edges.with("0", "1"));
        ParoleLedger z = Edges.with("2", "2");
        z.leave(6);
        noHome(z);
        z.officer(6, 2);
        z.trust(0);
        home(z, 1, 1, 1);
        bring(z, 0, 1, 1, 1);
        Edges.due("lots() without trust", z.lots(), 1);
        Edges.due("even() without trust", z.even(), 1);
        Edges.due("fair(2) without trust", z.fair(2), 1);
    }

    private static void forOne() {
        bring(Edges.with("3", "22.3"), 0, 1, 1, 8);
        bring(Edges.rated(Edges.with("01", "233"), 2, 4, 6, 1), 0, 1, 3, 1);
        bring(Edges.with("22", "32"), 0, 1, 1, 2);
        bring(Edges.rated(Edges.with("0111", "2"), 3, 5, 8), 0, 1, 3, 1);
        bring(Edges.rated(Edges.with("0111", "2"), 3, 5, 8), 2, 1, 5, 1);
        bring(Edges.rated(Edges.with("0111", "2"), 3, 5, 8), 3, 1, 9, 1);
        bring(crossed(), 0, 1, 3, 2);
        bring(crossed(), 1, 1, 3, 2);
        bring(crossed(), 2, 1, 5, 1);
        bring(Edges.with("2", ".222"), 0, 1, 1, 2);
        bring(Edges.with("3", "2222"), 0, 2, 1, 3);
        bring(Edges.with(".....5", "444..."), 5, 3, 32, 7);
        bring(Edges.with("222222", "222222"), 5, 1, 32, 1);
        bring(Edges.rated(Edges.with("011111", "222222"), 99, 99, 99), 0, 1, 1, 1);
        bring(Edges.rated(Edges.with("000000", "111111"), 1, 1), 4, 1, 16, 1);
        bring(Edges.rated(Edges.with("0", "111111"), 6, 1), 0, 6, 1, 63);
        bring(Edges.rated(Edges.with("000000", "1"), 1, 6), 3, 1, 63, 1);
        bring(Edges.with("52", "2"), 0, Edges.NONE, Edges.NONE, Edges.NONE);
        bring(Edges.with("52", "2"), 1, 1, 2, 1);
    }

    private static void otherTerms() {
        Edges.sentence(TERMS, "LOTS: as many exchanges as can be one behind another, nobody in two: how many.", () -> {
            Edges.due("lots(): six", Edges.with("012345", "543210").lots(), 6);
            Edges.due("lots(): nobody twice", Edges.with("2", "222222").lots(), 1);
            Edges.due("lots(): nobody twice", Edges.with("222222", "2").lots(), 1);
            Edges.due("lots(): two for one", Edges.with("2222", "33").lots(), 2);
            Edges.due("lots(): three and two, all", Edges.with("22222", "222").lots(), 3);
            Edges.due("lots(): only all", Edges.rated(Edges.with("01", "22"), 3, 5, 4).lots(), 1);
            Edges.due("lots(): of crossed ones one", crossed().lots(), 1);
            Edges.due("lots(): small ones, not the greatest",
                    Edges.rated(Edges.with("0123", "0123"), 1, 2, 3, 6).lots(), 4);
            Edges.due("lots(): 60 for thrice 20, 8 for 8", Edges.with("53", "4443").lots(), 2);
            Edges.due("lots(): none", Edges.with("0", "1").lots(), 0);
            Edges.due("lots(): both for single ones, not for c", Edges.with("22", "223").lots(), 2);
            Edges.due("lots(): A is left over", Edges.with("52", "2").lots(), 1);
            Edges.due("lots(): B is left over", Edges.with("25", "2").lots(), 1);
            Edges.due("lots(): a is left over", Edges.with("2", "52").lots(), 1);
            Edges.due("lots(): b is left over", Edges.with("2", "25").lots(), 1);
        });
        Edges.sentence(TERMS, "EVEN: whether all OPEN ours and theirs can be exchanged in one.", () -> {
            Edges.due("even()", Edges.with("5", "444").even(), 1);
            Edges.due("even(): by one more", Edges.with("50", "444").even(), 0);
            Edges.due("even(): by one less", Edges.with("5", "4440").even(), 0);
            Edges.due("even() of all", Edges.with("012345", "543210").even(), 1);
            for (int state = 0; state < 5; state++) {
                ParoleLedger x = Edges.act(Edges.with("22", "22"), Edges.into(state, 'A', 'a'));
                Edges.due("even() of " + state, x.even(), state == Edges.BROKEN ? 0 : 1);
            }
        });
        Edges.sentence(TERMS, "RATE: the rate (1 to 99) of a RANK, the others as they are, "
                + "by which all OPEN are even: the least; NONE.", ExchangeEdges::evenRates);
    }

    private static void evenRates() {
        Edges.due("fair(0): as many on both sides", Edges.with("03", "3012").fair(0), Edges.NONE);
        Edges.due("fair(0): the least is 1", Edges.rated(Edges.with("0", "1"), 7, 1).fair(0), 1);
        Edges.due("fair(0): the most is 99", Edges.rated(Edges.with("0", "1"), 7, 99).fair(0), 99);
        Edges.due("fair(0): 100 is over", Edges.rated(Edges.with("0", "12"), 7, 99, 1).fair(0), Edges.NONE);
        Edges.due("fair(0): 0 is under", Edges.rated(Edges.with("01", "1"), 7, 5).fair(0), Edges.NONE);
        Edges.due("fair(0): less than 0", Edges.rated(Edges.with("01", "2"), 7, 5, 4).fair(0), Edges.NONE);
        Edges.due("fair(0): a half is none", Edges.rated(Edges.with("00", "1"), 7, 5).fair(0), Edges.NONE);
        Edges.due("fair(0): twice 3", Edges.rated(Edges.with("00", "1"), 7, 6).fair(0), 3);
        Edges.due("fair(0): on both sides", Edges.rated(Edges.with("000", "01"), 7, 6).fair(0), 3);
        Edges.due("fair(0): theirs", Edges.rated(Edges.with("1", "00"), 7, 8).fair(0), 4);
        Edges.due("fair(0): by each", Edges.rated(Edges.with("01", "10"), 7, 8).fair(0), 1);
        Edges.due("fair(0): by none", Edges.rated(Edges.with("01", "20"), 7, 8, 9).fair(0), Edges.NONE);
        Edges.due("fair(5): nobody has it, even", Edges.with("0", "0").fair(5), 1);
        Edges.due("fair(5): nobody has it, not even", Edges.with("0", "1").fair(5), Edges.NONE);
        ParoleLedger x = Edges.with("2", "33");
        Edges.due("fair(2)", x.fair(2), 16);
        Edges.due("fair(3)", x.fair(3), 2);
        Edges.due("told(12): rates stay", x.told(12), 4);
        Edges.due("told(13): rates stay", x.told(13), 8);
        Edges.act(x, "asab");
        Edges.due("fair(2): of open ones alone", x.fair(2), 8);
    }

    private static void bestPromises() {
        Edges.sentence("Promise 14",
                "HOME: how many (what = 0), the lot of ours (1), of theirs (2: bits 0 to 5 for 6 to 11); NONE.", () -> {
                    for (int i = 0; i < 6; i++) {
                        ParoleLedger x = new ParoleLedger();
                        x.officer(5 - i, 3);
                        x.officer(6 + i, 3);
                        home(x, 1, 32 >> i, 1 << i);
                    }
                    noHome(new ParoleLedger());
                    noHome(Edges.with("0", "1"));
                });
        Edges.sentence("Promise 14", "OUTSIDE.", () -> {
            for (ParoleLedger x : new ParoleLedger[] {new ParoleLedger(), Edges.with("2", "2")}) {
                for (int what : Edges.outside(0, 2)) {
                    Edges.due("home(" + what + ")", x.home(what), Edges.OUTSIDE);
                }
            }
        });
        Edges.sentence("Promise 15", "FOR: how many of theirs (what = 0), lots (1, 2, likewise); NONE.", () -> {
            for (int i = 0; i < 6; i++) {
                ParoleLedger x = new ParoleLedger();
                x.officer(5 - i, 3);
                x.officer(6 + i, 3);
                bring(x, 5 - i, 1, 32 >> i, 1 << i);
            }
            bring(Edges.with("2", ""), 0, Edges.NONE, Edges.NONE, Edges.NONE);
            bring(Edges.with("2", "3"), 0, Edges.NONE, Edges.NONE, Edges.NONE);
        });
        Edges.sentence("Promise 15", "UNKNOWN: not one of ours who is there; OUTSIDE; STATE: he is not OPEN.",
                ExchangeEdges::refusedBring);
    }

    private static void refusedBring() {
        ParoleLedger x = Edges.with("2", "222222");
        for (int officer = 1; officer < 12; officer++) {
            Edges.due("bring(" + officer + ", 0)", x.bring(officer, 0), Edges.UNKNOWN);
            Edges.due("bring(" + officer + ", 3)", x.bring(officer, 3), Edges.UNKNOWN);
        }
        for (int officer : Edges.outside(0, 5)) {
            Edges.due("bring(" + officer + ", 0)", x.bring(officer, 0), Edges.UNKNOWN);
        }
        for (int what : Edges.outside(0, 2)) {
            Edges.due("bring(0, " + what + ")", x.bring(0, what), Edges.OUTSIDE);
        }
        for (int state = 0; state < 5; state++) {
            ParoleLedger y = Edges.act(Edges.with("2", "22"), Edges.into(state, 'A', 'a'));
            Edges.due("bring(0, 0) in state " + state, y.bring(0, 0), state < Edges.FREE ? 1 : Edges.STATE);
            Edges.due("bring(0, 3) in state " + state, y.bring(0, 3), Edges.OUTSIDE);
            y.leave(0);
            Edges.due("bring(0, 0) of one who left", y.bring(0, 0), Edges.UNKNOWN);
        }
    }

    private static void otherPromises() {
        Edges.sentence("Promise 16", "LOTS.", () -> {
            Edges.due("lots() of nobody", new ParoleLedger().lots(), 0);
            Edges.due("lots() of ours alone", Edges.with("222222", "").lots(), 0);
            Edges.due("lots() of theirs alone", Edges.with("", "222222").lots(), 0);
            Edges.due("lots() of the most", Edges.with("222222", "222222").lots(), 6);
            Edges.due("lots() of one", Edges.with(".....2", "2").lots(), 1);
            for (int state = 0; state < 5; state++) {
                ParoleLedger x = Edges.act(Edges.with("22", "22"), Edges.into(state, 'A', 'a'));
                Edges.due("lots() of " + state, x.lots(), state < Edges.FREE ? 2 : 1);
            }
        });
        Edges.sentence("Promise 17", "EVEN: 1, 0", () -> {
            Edges.due("even()", Edges.with("2", "2").even(), 1);
            Edges.due("even()", Edges.with("2", "3").even(), 0);
            Edges.due("even()", Edges.with("3", "2").even(), 0);
        });
        Edges.sentence("Promise 17", "(0, too, if on one side nobody is OPEN).", () -> {
            Edges.due("even() of nobody", new ParoleLedger().even(), 0);
            Edges.due("even() of ours alone", Edges.with("2", "").even(), 0);
            Edges.due("even() of theirs alone", Edges.with("", "2").even(), 0);
            ParoleLedger x = Edges.act(Edges.with("2", "2"), "(A:a)");
            Edges.due("even() of free ones alone", x.even(), 0);
            ParoleLedger y = Edges.act(Edges.with("2", "2"), "AsAbasab");
            Edges.due("even() of broken words alone", y.even(), 0);
        });
        Edges.sentence("Promise 18", "RATE; NONE (also if on one side nobody is OPEN).", () -> {
            Edges.due("fair(0) of nobody", new ParoleLedger().fair(0), Edges.NONE);
            Edges.due("fair(2) of ours alone", Edges.with("2", "").fair(2), Edges.NONE);
            Edges.due("fair(2) of theirs alone", Edges.with("", "2").fair(2), Edges.NONE);
            Edges.due("fair(0) of ours alone", Edges.with("2", "").fair(0), Edges.NONE);
            ParoleLedger x = Edges.act(Edges.with("2", "2"), "(A:a)");
            Edges.due("fair(2) of free ones alone", x.fair(2), Edges.NONE);
            Edges.due("fair(2)", Edges.with("2", "2").fair(2), 1);
        });
        Edges.sentence("Promise 18", "OUTSIDE.", () -> {
            for (ParoleLedger x : new ParoleLedger[] {new ParoleLedger(), Edges.with("2", "2")}) {
                for (int rank : Edges.outside(0, 5)) {
                    Edges.due("fair(" + rank + ")", x.fair(rank), Edges.OUTSIDE);
                }
            }
        });
    }
}
