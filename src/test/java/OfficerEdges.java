/** Officers, ranks, rates, trust, the pad and its fault: promises 1 to 8. */
final class OfficerEdges {
    private static final String TERMS = "Terms";
    private static final int[] FIRST_RATES = {1, 2, 4, 8, 20, 60};

    private OfficerEdges() {
    }

    static void run() {
        officerTerms();
        padTerms();
        officerPromises();
        padPromises();
    }

    private static void officerTerms() {
        Edges.sentence(TERMS, "OFFICERS 0 to 11, some of whom there are (none at first):", OfficerEdges::numbers);
        Edges.sentence(TERMS, "0 to 5 (A to F) are ours, held by them, 6 to 11 (a to f) theirs, held by us.",
                OfficerEdges::letters);
        Edges.sentence(TERMS, "Each has a RANK (0 drummer to 5 general) and is HELD (0; at first), "
                + "WALKS in town (1), is at HOME (2), FREE (3), or has BROKEN his word (4).",
                OfficerEdges::ranksAndStates);
        Edges.sentence(TERMS, "RATES of RANKS (1 to 99): 1, 2, 4, 8, 20, 60 at first.", () -> {
            ParoleLedger x = new ParoleLedger();
            for (int rank = 0; rank < 6; rank++) {
                Edges.due("told(1" + rank + ") at first", x.told(10 + rank), FIRST_RATES[rank]);
                Edges.due("rate(" + rank + ", 1)", x.rate(rank, 1), FIRST_RATES[rank]);
                Edges.due("rate(" + rank + ", 99)", x.rate(rank, 99), 1);
                Edges.due("rate(" + rank + ", 0)", x.rate(rank, 0), Edges.OUTSIDE);
                Edges.due("rate(" + rank + ", 100)", x.rate(rank, 100), Edges.OUTSIDE);
                Edges.due("told(1" + rank + ")", x.told(10 + rank), 99);
            }
        });
        Edges.sentence(TERMS, "TRUST (0 to 9; 5 at first).", () -> {
            ParoleLedger x = new ParoleLedger();
            Edges.due("told(2) at first", x.told(2), 5);
            for (int v = 0; v < 10; v++) {
                Edges.due("trust(" + v + ")", x.trust(v), v == 0 ? 5 : v - 1);
                Edges.due("told(2)", x.told(2), v);
            }
            Edges.due("trust(-1)", x.trust(-1), Edges.OUTSIDE);
            Edges.due("trust(10)", x.trust(10), Edges.OUTSIDE);
        });
    }

    private static void numbers() {
        ParoleLedger x = new ParoleLedger();
        Edges.due("told(1) at first", x.told(1), 0);
        for (int officer = 0; officer < 12; officer++) {
            Edges.due("leave(" + officer + ") at first", x.leave(officer), Edges.UNKNOWN);
        }
        for (int officer = 0; officer < 12; officer++) {
            Edges.due("officer(" + officer + ", 0)", x.officer(officer, 0), officer + 1);
            Edges.due("told(1)", x.told(1), (2 << officer) - 1);
        }
        Edges.due("officer(-1, 0)", x.officer(-1, 0), Edges.UNKNOWN);
        Edges.due("officer(12, 0)", x.officer(12, 0), Edges.UNKNOWN);
    }

    private static void letters() {
        for (int officer = 0; officer < 12; officer++) {
            ParoleLedger x = new ParoleLedger();
            x.officer(officer, 0);
            Edges.due("owed() of " + officer + " alone", x.owed(), officer < 6 ? 1001 : 999);
            Edges.act(x, Edges.LETTERS.charAt(officer) + "s");
            Edges.due("told(40 and " + officer + ")", x.told(40 + officer), Edges.WALKS);
        }
        for (char beyond : "@G`g".toCharArray()) {
            Edges.fault(beyond + "s", 0);
            Edges.fault("(" + beyond + ":a)", 1);
            Edges.fault("(A:" + beyond + ")", 3);
        }
        Edges.fault("(A:a)", Edges.NONE);
        Edges.fault("(F:f)", Edges.NONE);
        Edges.fault("(a:a)", 1);
        Edges.fault("(f:a)", 1);
        Edges.fault("(A:A)", 3);
        Edges.fault("(A:F)", 3);
    }

    private static void ranksAndStates() {
        ParoleLedger x = new ParoleLedger();
        for (int rank = 0; rank < 6; rank++) {
            x.officer(rank, rank);
            Edges.due("told(2" + rank + ")", x.told(20 + rank), rank);
            Edges.due("told(4" + rank + ") at first", x.told(40 + rank), Edges.HELD);
        }
        Edges.due("officer(0, -1)", x.officer(0, -1), Edges.OUTSIDE);
        Edges.due("officer(0, 6)", x.officer(0, 6), Edges.OUTSIDE);
        for (int state = 0; state < 5; state++) {
            ParoleLedger y = Edges.act(Edges.with("2", "2"), Edges.into(state, 'A', 'a'));
            Edges.due("told(40)", y.told(40), state);
            ParoleLedger z = Edges.act(Edges.with("2", "2"), Edges.into(state, 'a', 'A'));
            Edges.due("told(46)", z.told(46), state);
        }
    }

    private static void padTerms() {
        Edges.sentence(TERMS, "MONTHS are a text on a PAD of up to 60 signs (codes 33 to 126) of ACTS:", () -> {
            ParoleLedger x = new ParoleLedger();
            for (int code = 0; code < 256; code++) {
                boolean fits = code >= 33 && code <= 126;
                Edges.due("say(" + code + ")", x.say(code), fits ? 1 : Edges.OUTSIDE);
                if (fits) {
                    x.wipe();
                }
            }
            ParoleLedger y = Edges.write(new ParoleLedger(), "A".repeat(59));
            Edges.due("say(65) behind 59", y.say(65), 60);
            Edges.due("say(65) behind 60", y.say(65), Edges.FULL);
            Edges.due("told(0)", y.told(0), 60);
        });
        Edges.sentence(TERMS, "an OFFICER's letter and s (he swears: WALKS),",
                () -> deed("", "As", Edges.WALKS, 2));
        Edges.sentence(TERMS, "h (he goes HOME),", () -> deed("As", "Ah", Edges.AT_HOME, 2));
        Edges.sentence(TERMS, "b (he breaks his word: he has BROKEN it, TRUST is 1 less, 0 at least),",
                OfficerEdges::breakingAWord);
        Edges.sentence(TERMS, "or + (he is a RANK more);", () -> {
            deed("", "A+", Edges.HELD, 3);
            deed("As", "A+", Edges.WALKS, 3);
            deed("AsAh", "A+", Edges.AT_HOME, 3);
            ParoleLedger x = Edges.with("0", "0");
            for (int rank = 0; rank < 5; rank++) {
                Edges.due("told(20)", x.told(20), rank);
                Edges.act(x, "A+");
                Edges.due("owed(): his rate is of the rank then", x.owed(), 999 + FIRST_RATES[rank + 1]);
            }
            Edges.judged(x, "A+", 0, 4);
        });
        Edges.sentence(TERMS, "or ( and letters of ours (one at least), : and letters of theirs (one at least), ) :",
                OfficerEdges::lotsOnThePad);
        Edges.sentence(TERMS, "all these are exchanged: FREE, TRUST is 1 more, 9 at most.", OfficerEdges::exchanged);
        Edges.sentence(TERMS, "THE FAULT: the place (from 0 on) of the first sign that can not stand there,",
                OfficerEdges::faultPlaces);
        Edges.sentence(TERMS, "or the number of signs, if more must come.", () -> {
            int[] faults = {Edges.NONE, 1, 2, 3, 4, 5, 6, Edges.NONE, 8, Edges.NONE};
            for (int n = 0; n < faults.length; n++) {
                Edges.fault("(AB:ab)Fs".substring(0, n), faults[n]);
            }
            Edges.fault("As".repeat(29) + "(A", 60);
            Edges.fault("As".repeat(28) + "(A:a", 60);
            Edges.fault("As".repeat(25) + "(A:a)" + "As".repeat(2) + "A", 60);
            Edges.fault("As".repeat(30), Edges.NONE);
        });
    }

    /** A deed of one of two on either side: he alone comes to be so, and trust stays. */
    private static void deed(String before, String deed, int state, int rank) {
        ParoleLedger x = Edges.act(Edges.with("22", "22"), before);
        Edges.act(x, deed);
        Edges.due("told(40) behind " + before + deed, x.told(40), state);
        Edges.due("told(20) behind " + before + deed, x.told(20), rank);
        Edges.due("told(41): the other one", x.told(41), Edges.HELD);
        Edges.due("told(46): of the other side", x.told(46), Edges.HELD);
        Edges.due("told(21)", x.told(21), 2);
        Edges.due("told(2)", x.told(2), 5);
    }

    private static void breakingAWord() {
        for (String before : new String[] {"As", "AsAh"}) {
            for (int trust = 9; trust >= 0; trust--) {
                ParoleLedger x = Edges.act(Edges.with("22", "2"), before);
                x.trust(trust);
                Edges.act(x, "Ab");
                Edges.due("told(40)", x.told(40), Edges.BROKEN);
                Edges.due("told(2) behind " + trust, x.told(2), trust == 0 ? 0 : trust - 1);
            }
        }
        ParoleLedger y = Edges.act(Edges.with("222", "2"), "AsBsCsas");
        y.trust(2);
        Edges.act(y, "AbBbCbab");
        Edges.due("told(2): 0 behind four of 2", y.told(2), 0);
        Edges.due("told(46)", y.told(46), Edges.BROKEN);
    }

    private static void lotsOnThePad() {
        Edges.fault("()", 1);
        Edges.fault("(:a)", 1);
        Edges.fault("(A)", 2);
        Edges.fault("(A:)", 3);
        Edges.fault("(::a)", 1);
        Edges.fault("(A::a)", 3);
        Edges.fault("(A:a:a)", 4);
        Edges.fault("(A:a", 4);
        Edges.fault("(A:a)", Edges.NONE);
        Edges.fault("(ABCDEF:abcdef)", Edges.NONE);
        Edges.fault("(" + "A".repeat(56) + ":a)", Edges.NONE);
        Edges.fault("(A:" + "f".repeat(56) + ")", Edges.NONE);
        Edges.fault("((A:a)", 1);
        Edges.fault("(A(:a)", 2);
        Edges.fault("(A:(a)", 3);
        Edges.fault("(As:a)", 2);
        Edges.fault("(A:ah)", 5 - 1);
    }

    private static void exchanged() {
        for (int trust = 1; trust <= 9; trust++) {
            ParoleLedger x = Edges.with("2222", "3322");
            x.trust(trust);
            Edges.act(x, "(AB:a)");
            Edges.due("told(2) behind " + trust, x.told(2), Math.min(9, trust + 1));
            Edges.due("told(40)", x.told(40), Edges.FREE);
            Edges.due("told(41)", x.told(41), Edges.FREE);
            Edges.due("told(42)", x.told(42), Edges.HELD);
            Edges.due("told(46)", x.told(46), Edges.FREE);
            Edges.due("told(47)", x.told(47), Edges.HELD);
        }
        ParoleLedger y = Edges.act(Edges.with("012345", "012345"), "(ABCDEF:abcdef)");
        for (int officer = 0; officer < 12; officer++) {
            Edges.due("told(40 and " + officer + ")", y.told(40 + officer), Edges.FREE);
        }
        Edges.due("told(2): one exchange", y.told(2), 6);
        ParoleLedger z = Edges.act(Edges.with("012345", "012345"), "(A:a)(B:b)(C:c)(D:d)(E:e)(F:f)");
        Edges.due("told(2): six of 5", z.told(2), 9);
        ParoleLedger w = Edges.act(Edges.with("22", "2"), "Bs");
        w.trust(9);
        Edges.act(w, "(A:a)Bb");
        Edges.due("told(2): 9 and none, then 1 less", w.told(2), 8);
    }

    private static void faultPlaces() {
        String text = "(AB:ab)FhA+";
        for (int at = 0; at < text.length(); at++) {
            for (char sign : "!~gG2".toCharArray()) {
                Edges.fault(text.substring(0, at) + sign + text.substring(at + 1), at);
            }
        }
        for (char sign : "shgz+:)!~Z".toCharArray()) {
            Edges.fault("" + sign, 0);
            Edges.fault("As" + sign, 2);
        }
        for (char sign : "ABFacdefSHB-(:)!~".toCharArray()) {
            Edges.fault("A" + sign, 1);
        }
        Edges.fault("A!!", 1);
        Edges.fault("!A", 0);
        Edges.fault("As".repeat(29) + "A!", 59);
        Edges.fault("As".repeat(29) + "!s", 58);
        Edges.fault("bbbbbb", Edges.NONE);
        Edges.fault("bbbbb", 5);
    }

    private static void officerPromises() {
        Edges.sentence("Promise 1", "Nobody is there.", () -> {
            ParoleLedger x = new ParoleLedger();
            Edges.due("told(1)", x.told(1), 0);
            for (int officer = 0; officer < 12; officer++) {
                Edges.due("rank(" + officer + ")", x.rank(officer), Edges.UNKNOWN);
                Edges.due("behind(" + officer + ", 0)", x.behind(officer, 0), Edges.UNKNOWN);
                Edges.due("told(20 and " + officer + ")", x.told(20 + officer), Edges.OUTSIDE);
                Edges.due("told(40 and " + officer + ")", x.told(40 + officer), Edges.OUTSIDE);
            }
            ParoleLedger y = new ParoleLedger();
            x.officer(0, 0);
            Edges.due("told(1): another object", y.told(1), 0);
        });
        Edges.sentence("Promise 2", "An OFFICER is there (or anew), HELD: how many are.", OfficerEdges::anew);
        Edges.sentence("Promise 2", "UNKNOWN: the number; OUTSIDE.", () -> {
            ParoleLedger x = Edges.with("2", "");
            for (int officer : Edges.outside(0, 11)) {
                Edges.due("officer(" + officer + ", 0)", x.officer(officer, 0), Edges.UNKNOWN);
                Edges.due("officer(" + officer + ", 6)", x.officer(officer, 6), Edges.UNKNOWN);
            }
            for (int rank : Edges.outside(0, 5)) {
                Edges.due("officer(0, " + rank + ")", x.officer(0, rank), Edges.OUTSIDE);
                Edges.due("officer(11, " + rank + ")", x.officer(11, rank), Edges.OUTSIDE);
            }
            Edges.due("told(1)", x.told(1), 1);
            Edges.due("told(20)", x.told(20), 2);
        });
        Edges.sentence("Promise 3", "An OFFICER is no more: how many are.", () -> {
            ParoleLedger x = Edges.with("222222", "222222");
            for (int officer = 11; officer >= 0; officer--) {
                Edges.due("leave(" + officer + ")", x.leave(officer), officer);
                Edges.due("told(1)", x.told(1), (1 << officer) - 1);
                Edges.due("told(20 and " + officer + ")", x.told(20 + officer), Edges.OUTSIDE);
            }
        });
        Edges.sentence("Promise 3", "UNKNOWN: he was not.", () -> {
            ParoleLedger x = Edges.with("222222", "222222");
            Edges.due("leave(3)", x.leave(3), 11);
            Edges.due("leave(3) again", x.leave(3), Edges.UNKNOWN);
            for (int officer : Edges.outside(0, 11)) {
                Edges.due("leave(" + officer + ")", x.leave(officer), Edges.UNKNOWN);
            }
            Edges.due("told(1)", x.told(1), 4095 - 8);
        });
        Edges.sentence("Promise 4", "RATE of a RANK: which it was.", () -> {
            ParoleLedger x = new ParoleLedger();
            Edges.due("rate(0, 99)", x.rate(0, 99), 1);
            Edges.due("rate(0, 99) as it is", x.rate(0, 99), 99);
            Edges.due("rate(0, 1)", x.rate(0, 1), 99);
            Edges.due("rate(5, 1)", x.rate(5, 1), 60);
            Edges.due("told(11): the others stay", x.told(11), 2);
            Edges.due("told(14): the others stay", x.told(14), 20);
        });
        Edges.sentence("Promise 4", "OUTSIDE.", () -> {
            ParoleLedger x = new ParoleLedger();
            for (int rank : Edges.outside(0, 5)) {
                Edges.due("rate(" + rank + ", 7)", x.rate(rank, 7), Edges.OUTSIDE);
            }
            for (int v : Edges.outside(1, 99)) {
                Edges.due("rate(2, " + v + ")", x.rate(2, v), Edges.OUTSIDE);
            }
            for (int rank = 0; rank < 6; rank++) {
                Edges.due("told(1" + rank + ")", x.told(10 + rank), FIRST_RATES[rank]);
            }
        });
        Edges.sentence("Promise 5", "TRUST: which it was.", () -> {
            ParoleLedger x = new ParoleLedger();
            Edges.due("trust(0)", x.trust(0), 5);
            Edges.due("trust(0) as it is", x.trust(0), 0);
            Edges.due("trust(9)", x.trust(9), 0);
            Edges.due("trust(3)", x.trust(3), 9);
        });
        Edges.sentence("Promise 5", "OUTSIDE.", () -> {
            ParoleLedger x = new ParoleLedger();
            for (int v : Edges.outside(0, 9)) {
                Edges.due("trust(" + v + ")", x.trust(v), Edges.OUTSIDE);
            }
            Edges.due("told(2)", x.told(2), 5);
        });
    }

    private static void anew() {
        for (int state = 0; state < 5; state++) {
            ParoleLedger x = Edges.act(Edges.with("2", "2"), Edges.into(state, 'A', 'a'));
            int trust = x.told(2);
            Edges.due("officer(0, 5) anew", x.officer(0, 5), 2);
            Edges.due("told(40)", x.told(40), Edges.HELD);
            Edges.due("told(20)", x.told(20), 5);
            Edges.due("told(2)", x.told(2), trust);
        }
        ParoleLedger y = Edges.act(Edges.with("2", "2"), "AsAb");
        y.leave(0);
        Edges.due("officer(0, 1) behind leave(0)", y.officer(0, 1), 2);
        Edges.due("told(40)", y.told(40), Edges.HELD);
        Edges.due("told(20)", y.told(20), 1);
    }

    private static void padPromises() {
        Edges.sentence("Promise 6", "A sign more: how many.", () -> {
            ParoleLedger x = new ParoleLedger();
            for (int n = 1; n <= 60; n++) {
                Edges.due("say(" + (66 + n) + ")", x.say(66 + n), n);
                Edges.due("told(0)", x.told(0), n);
            }
        });
        Edges.sentence("Promise 6", "OUTSIDE; FULL.", () -> {
            ParoleLedger x = new ParoleLedger();
            for (int sign : Edges.outside(33, 126)) {
                Edges.due("say(" + sign + ")", x.say(sign), Edges.OUTSIDE);
            }
            Edges.due("told(0)", x.told(0), 0);
            Edges.write(x, "As".repeat(30));
            Edges.due("say(33)", x.say(33), Edges.FULL);
            Edges.due("say(126)", x.say(126), Edges.FULL);
            for (int sign : Edges.outside(33, 126)) {
                Edges.due("say(" + sign + ") on a full pad", x.say(sign), Edges.OUTSIDE);
            }
            Edges.due("told(0)", x.told(0), 60);
            Edges.due("fault()", x.fault(), Edges.NONE);
        });
        Edges.sentence("Promise 7", "Signs go: how many there were.", () -> {
            ParoleLedger x = new ParoleLedger();
            Edges.due("wipe() of none", x.wipe(), 0);
            x.say('A');
            Edges.due("wipe() of one", x.wipe(), 1);
            Edges.due("wipe() again", x.wipe(), 0);
            Edges.write(x, "!".repeat(60));
            Edges.due("wipe() of 60", x.wipe(), 60);
            Edges.due("told(0)", x.told(0), 0);
            Edges.due("fault(): the old signs are gone", x.fault(), Edges.NONE);
            Edges.due("say(65)", x.say(65), 1);
            Edges.due("fault()", x.fault(), 1);
        });
        Edges.sentence("Promise 8", "THE FAULT; NONE.", () -> {
            Edges.fault("", Edges.NONE);
            Edges.fault("Ab", Edges.NONE);
            Edges.fault("b", 1);
            Edges.fault("~", 0);
            ParoleLedger x = Edges.write(new ParoleLedger(), "AsAs(A:b)");
            Edges.due("fault(): an act that can not be is none", x.fault(), Edges.NONE);
            Edges.due("fault() again", x.fault(), Edges.NONE);
        });
    }
}
