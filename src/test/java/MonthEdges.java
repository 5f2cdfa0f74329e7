/** Why an act can not be, what is judged, the ledgers, what is owed: promises 9 to 13. */
final class MonthEdges {
    private static final String TERMS = "Terms";

    private MonthEdges() {
    }

    static void run() {
        reasons();
        ledgerTerms();
        judgePromises();
        ledgerPromises();
    }

    private static void reasons() {
        Edges.sentence(TERMS, "An ACT can not be for the least of these reasons:", MonthEdges::leastReason);
        Edges.sentence(TERMS, "1 there is no such OFFICER;", () -> {
            ParoleLedger x = Edges.with("2", "2");
            for (String deed : new String[] {"s", "h", "b", "+"}) {
                Edges.judged(x, "B" + deed, 0, 1);
                Edges.judged(x, "f" + deed, 0, 1);
            }
            Edges.judged(x, "(B:a)", 0, 1);
            Edges.judged(x, "(AF:a)", 0, 1);
            Edges.judged(x, "(A:f)", 0, 1);
            Edges.judged(x, "(A:ab)", 0, 1);
            Edges.judged(x, "(A:a)", Edges.NONE, Edges.NONE);
            x.leave(0);
            Edges.judged(x, "As", 0, 1);
        });
        Edges.sentence(TERMS, "2 one is told twice in it;", () -> {
            ParoleLedger x = Edges.with("22", "322");
            Edges.judged(x, "(AA:a)", 0, 2);
            Edges.judged(x, "(A:bb)", 0, 2);
            Edges.judged(x, "(ABA:a)", 0, 2);
            Edges.judged(x, "(A:bcb)", 0, 2);
            Edges.judged(x, "(AA:bb)", 0, 2);
            Edges.judged(x, "(AB:bc)", Edges.NONE, Edges.NONE);
            Edges.judged(x, "(A:b)(B:c)", Edges.NONE, Edges.NONE);
            Edges.judged(x, "(A:b)(BB:c)", 1, 2);
            Edges.judged(x, "AsAh", Edges.NONE, Edges.NONE);
        });
        Edges.sentence(TERMS, "3 he is not HELD (s),", () -> byState("s", 0, 3, 3, 3, 3));
        Edges.sentence(TERMS, "does not WALK (h),", () -> byState("h", 3, 0, 3, 3, 3));
        Edges.sentence(TERMS, "neither WALKS nor is at HOME (b),", () -> byState("b", 3, 0, 0, 3, 3));
        Edges.sentence(TERMS, "is FREE or has BROKEN his word (+, an exchange);", MonthEdges::freeOrBroken);
        Edges.sentence(TERMS, "4 he is a general (+);", () -> {
            ParoleLedger x = Edges.with("45", "45");
            Edges.judged(x, "A+", Edges.NONE, Edges.NONE);
            Edges.judged(x, "A+A+", 1, 4);
            Edges.judged(x, "B+", 0, 4);
            Edges.judged(x, "a+", Edges.NONE, Edges.NONE);
            Edges.judged(x, "b+", 0, 4);
            Edges.judged(x, "BsB+", 1, 4);
            Edges.judged(x, "BsBhB+", 2, 4);
            Edges.judged(x, "BsBhBb", Edges.NONE, Edges.NONE);
            Edges.judged(x, "(B:b)", Edges.NONE, Edges.NONE);
        });
        Edges.sentence(TERMS, "5 TRUST is 0 (s, an exchange);", MonthEdges::noTrust);
        Edges.sentence(TERMS, "6 RATES of both lots together are not even.", MonthEdges::uneven);
    }

    /** Acts with two reasons at once: the less one is told. */
    private static void leastReason() {
        ParoleLedger x = Edges.act(Edges.with("225.55", "22"), "(A:a)FsFb");
        Edges.judged(x, "(DBB:b)", 0, 1);
        Edges.judged(x, "(DA:b)", 0, 1);
        Edges.judged(x, "(AB:f)", 0, 1);
        Edges.judged(x, "(BBD:b)", 0, 1);
        Edges.judged(x, "(AAB:b)", 0, 2);
        Edges.judged(x, "(BB:bb)", 0, 2);
        Edges.judged(x, "(BB:b)", 0, 2);
        Edges.judged(x, "(B:aa)", 0, 2);
        Edges.judged(x, "F+", 0, 3);
        Edges.judged(x, "(AB:b)", 0, 3);
        Edges.judged(x, "(BF:b)", 0, 3);
        x.trust(0);
        Edges.judged(x, "Ds", 0, 1);
        Edges.judged(x, "(D:b)", 0, 1);
        Edges.judged(x, "(BB:b)", 0, 2);
        Edges.judged(x, "As", 0, 3);
        Edges.judged(x, "(A:b)", 0, 3);
        Edges.judged(x, "C+", 0, 4);
        Edges.judged(x, "(C:b)", 0, 5);
        Edges.judged(x, "(B:b)", 0, 5);
        x.trust(1);
        Edges.judged(x, "(C:b)", 0, 6);
    }

    /** One deed by one of ours and one of theirs in each state; reasons by state, 0: it can be. */
    private static void byState(String deed, int... why) {
        for (int state = 0; state < 5; state++) {
            int want = why[state] == 0 ? Edges.NONE : why[state];
            int at = why[state] == 0 ? Edges.NONE : 0;
            ParoleLedger x = Edges.act(Edges.with("2", "2"), Edges.into(state, 'A', 'a'));
            Edges.judged(x, "A" + deed, at, want);
            ParoleLedger y = Edges.act(Edges.with("2", "2"), Edges.into(state, 'a', 'A'));
            Edges.judged(y, "a" + deed, at, want);
        }
    }

    private static void freeOrBroken() {
        byState("+", 0, 0, 0, 3, 3);
        for (int state = 0; state < 5; state++) {
            int why = state < Edges.FREE ? Edges.NONE : 3;
            int act = state < Edges.FREE ? Edges.NONE : 0;
            ParoleLedger x = Edges.act(Edges.with("222", "222"), Edges.into(state, 'A', 'a'));
            Edges.judged(x, "(A:b)", act, why);
            Edges.judged(x, "(BA:bc)", act, why);
            ParoleLedger y = Edges.act(Edges.with("222", "222"), Edges.into(state, 'a', 'A'));
            Edges.judged(y, "(B:a)", act, why);
            Edges.judged(y, "(BC:ba)", act, why);
        }
    }

    private static void noTrust() {
        ParoleLedger x = Edges.act(Edges.with("22222", "22222"), "BsCsCh");
        x.trust(0);
        Edges.judged(x, "As", 0, 5);
        Edges.judged(x, "as", 0, 5);
        Edges.judged(x, "(A:a)", 0, 5);
        Edges.judged(x, "Bh", Edges.NONE, Edges.NONE);
        Edges.judged(x, "Bb", Edges.NONE, Edges.NONE);
        Edges.judged(x, "CbBb", Edges.NONE, Edges.NONE);
        Edges.judged(x, "A+", Edges.NONE, Edges.NONE);
        x.trust(1);
        Edges.judged(x, "As(A:a)", Edges.NONE, Edges.NONE);
        Edges.judged(x, "BbAs", 1, 5);
        Edges.judged(x, "Bb(A:a)", 1, 5);
        Edges.judged(x, "(A:a)BbDs", Edges.NONE, Edges.NONE);
        Edges.judged(x, "(A:a)BbCbDs", 3, 5);
    }

    private static void uneven() {
        ParoleLedger x = Edges.with("0123", "0123");
        Edges.judged(x, "(A:a)", Edges.NONE, Edges.NONE);
        Edges.judged(x, "(A:b)", 0, 6);
        Edges.judged(x, "(B:a)", 0, 6);
        Edges.judged(x, "(ABC:d)", 0, 6);
        Edges.judged(x, "(D:abc)", 0, 6);
        Edges.judged(x, "(AD:abc)", 0, 6);
        Edges.judged(x, "(CBA:cab)", Edges.NONE, Edges.NONE);
        Edges.judged(x, "A+(A:b)", Edges.NONE, Edges.NONE);
        Edges.judged(x, "A+(A:a)", 1, 6);
        x.rate(0, 2);
        Edges.judged(x, "(A:b)", Edges.NONE, Edges.NONE);
        Edges.judged(x, "(ABC:d)", Edges.NONE, Edges.NONE);
        ParoleLedger y = Edges.with("5", "444");
        Edges.judged(y, "(A:abc)", Edges.NONE, Edges.NONE);
        y.rate(5, 59);
        Edges.judged(y, "(A:abc)", 0, 6);
        y.rate(5, 61);
        Edges.judged(y, "(A:abc)", 0, 6);
    }

    private static void ledgerTerms() {
        Edges.sentence(TERMS, "JUDGED: the first ACT (from 0 on) that can not be, why; exchanges.",
                MonthEdges::firstAndLastAct);
        Edges.sentence(TERMS, "BEHIND: of an OFFICER what he is (0 to 4), his RANK.", () -> {
            for (int state = 0; state < 5; state++) {
                ParoleLedger x = Edges.write(Edges.with("2", "2"), Edges.into(state, 'A', 'a'));
                Edges.due("behind(0, 0) of " + state, x.behind(0, 0), state);
                Edges.due("behind(0, 1) of " + state, x.behind(0, 1), 2);
                Edges.due("told(40): nothing is done", x.told(40), Edges.HELD);
            }
            for (int rank = 0; rank < 6; rank++) {
                ParoleLedger x = Edges.write(Edges.with("0", ".....0"), "A+".repeat(rank) + "f+".repeat(rank));
                Edges.due("behind(0, 1) of " + rank, x.behind(0, 1), rank);
                Edges.due("behind(11, 1) of " + rank, x.behind(11, 1), rank);
                Edges.due("told(20): nothing is done", x.told(20), 0);
            }
        });
        Edges.sentence(TERMS, "LEDGER behind: TRUST; RATES of all ours who are not FREE and have not BROKEN it; "
                + "of all theirs.", MonthEdges::ledgerBehind);
        Edges.sentence(TERMS, "DONE: it is so then.", () -> {
            ParoleLedger x = Edges.write(Edges.with("2234", "2231"), "AsAhBsBb(A:a)C+ds");
            int[] behind = new int[24];
            int[] officers = {0, 1, 2, 3, 6, 7, 8, 9};
            for (int officer : officers) {
                behind[officer] = x.behind(officer, 0);
                behind[12 + officer] = x.behind(officer, 1);
            }
            int trust = x.ledger(0);
            Edges.due("done()", x.done(), 7);
            for (int officer : officers) {
                Edges.due("told(40 and " + officer + ")", x.told(40 + officer), behind[officer]);
                Edges.due("told(20 and " + officer + ")", x.told(20 + officer), behind[12 + officer]);
            }
            Edges.due("told(2)", x.told(2), trust);
            Edges.due("told(1)", x.told(1), 15 + 15 * 64);
        });
        Edges.sentence(TERMS, "(Here OPEN: who is there, not FREE, and has not BROKEN his word.)", () -> {
            for (int state = 0; state < 5; state++) {
                ParoleLedger x = Edges.act(Edges.with("2", "22"), Edges.into(state, 'A', 'a'));
                int theirs = state == Edges.FREE ? 4 : 8;
                Edges.due("owed() of " + state, x.owed(), 1000 - theirs + (state < Edges.FREE ? 4 : 0));
                Edges.due("home(0) of " + state, x.home(0), state < Edges.FREE ? 1 : Edges.NONE);
                x.leave(0);
                Edges.due("home(0) of one who left", x.home(0), Edges.NONE);
            }
        });
        Edges.sentence(TERMS, "OWED: by how much RATES of all OPEN ours are more than those of theirs, and 1000.",
                MonthEdges::owed);
    }

    /** Twelve who swear and go home, five of whom break their word: 29 acts that can be. */
    private static String manyActs() {
        StringBuilder s = new StringBuilder();
        for (char letter : Edges.LETTERS.toCharArray()) {
            s.append(letter).append('s').append(letter).append('h');
        }
        return s.append("AbBbCbDbEb").toString();
    }

    private static void firstAndLastAct() {
        ParoleLedger x = Edges.with("222222", "222222");
        Edges.judged(x, "", Edges.NONE, Edges.NONE);
        Edges.due("judge(2) of nothing", x.judge(2), 0);
        Edges.judged(x, "Ah", 0, 3);
        Edges.judged(x, manyActs() + "Fb", Edges.NONE, Edges.NONE);
        Edges.due("judge(2): no exchanges", x.judge(2), 0);
        Edges.judged(x, manyActs() + "As", 29, 3);
        Edges.due("judge(2)", x.judge(2), Edges.STATE);
        Edges.judged(x, "AsAsBhCh", 1, 3);
        Edges.judged(x, "(A:a)(B:b)(C:c)(D:d)(E:e)(F:f)", Edges.NONE, Edges.NONE);
        Edges.due("judge(2): six exchanges", x.judge(2), 6);
        Edges.judged(x, "(ABCDEF:abcdef)", Edges.NONE, Edges.NONE);
        Edges.due("judge(2): one", x.judge(2), 1);
        Edges.judged(x, "(A:a)Bs(A:b)", 2, 3);
        Edges.due("judge(2): some can not be", x.judge(2), Edges.STATE);
    }

    private static void ledgerBehind() {
        ParoleLedger x = new ParoleLedger();
        Edges.due("ledger(1) of nobody", x.ledger(1), 0);
        Edges.due("ledger(2) of nobody", x.ledger(2), 0);
        for (int state = 0; state < 5; state++) {
            ParoleLedger y = Edges.write(Edges.with("22", "22"), Edges.into(state, 'A', 'a'));
            int trust = state == Edges.FREE ? 6 : state == Edges.BROKEN ? 4 : 5;
            Edges.due("ledger(0) of " + state, y.ledger(0), trust);
            Edges.due("ledger(1) of " + state, y.ledger(1), state < Edges.FREE ? 8 : 4);
            Edges.due("ledger(2) of " + state, y.ledger(2), state == Edges.FREE ? 4 : 8);
            Edges.due("owed(): nothing is done", y.owed(), 1000);
        }
        ParoleLedger z = Edges.with("555555", "555555");
        z.rate(5, 99);
        Edges.due("ledger(1): the most", z.ledger(1), 594);
        Edges.due("ledger(2): the most", z.ledger(2), 594);
        Edges.write(z, "(ABCDEF:abcdef)");
        Edges.due("ledger(1): all are free", z.ledger(1), 0);
        Edges.due("ledger(2): all are free", z.ledger(2), 0);
        ParoleLedger w = Edges.write(Edges.with("4", "4"), "A+");
        Edges.due("ledger(1): of his rank then", w.ledger(1), 60);
        Edges.due("ledger(2)", w.ledger(2), 20);
        w.leave(6);
        Edges.due("ledger(2): he left", w.ledger(2), 0);
    }

    private static void owed() {
        Edges.due("owed() of nobody", new ParoleLedger().owed(), 1000);
        ParoleLedger x = Edges.with("555555", "");
        x.rate(5, 99);
        Edges.due("owed(): the most", x.owed(), 1594);
        ParoleLedger y = Edges.with("", "555555");
        y.rate(5, 99);
        Edges.due("owed(): the least", y.owed(), 406);
        Edges.due("owed(): even", Edges.with("012345", "543210").owed(), 1000);
        Edges.due("owed(): one more", Edges.with("0", "").owed(), 1001);
        Edges.due("owed(): one less", Edges.with("", ".....0").owed(), 999);
        ParoleLedger z = Edges.write(Edges.with("2", "3"), "A+");
        Edges.due("owed(): the pad is not done", z.owed(), 996);
    }

    private static void judgePromises() {
        Edges.sentence("Promise 9", "JUDGED: the ACT (what = 0), why (1), exchanges (2); NONE.", () -> {
            ParoleLedger x = Edges.with("22", "22");
            for (String text : new String[] {"", "As", "(A:a)"}) {
                Edges.judged(x, text, Edges.NONE, Edges.NONE);
                Edges.due("judge(2) of " + text, x.judge(2), text.isEmpty() || text.equals("As") ? 0 : 1);
            }
            Edges.judged(x, "(A:a)(B:a)", 1, 3);
            Edges.judged(x, "Ah", 0, 3);
            Edges.due("told(0): the pad stays", x.told(0), 2);
        });
        Edges.sentence("Promise 9", "OUTSIDE; NO: there is a FAULT; STATE (2): some ACT can not be.", () -> {
            ParoleLedger x = Edges.with("2", "2");
            outsideJudge(x);
            Edges.write(x, "AhA");
            outsideJudge(x);
            for (int what = 0; what < 3; what++) {
                Edges.due("judge(" + what + ") with a fault", x.judge(what), Edges.NO);
            }
            Edges.write(x, "Ah");
            outsideJudge(x);
            Edges.due("judge(0)", x.judge(0), 0);
            Edges.due("judge(1)", x.judge(1), 3);
            Edges.due("judge(2)", x.judge(2), Edges.STATE);
        });
        Edges.sentence("Promise 10", "BEHIND: what he is (what = 0), RANK (1).", () -> {
            ParoleLedger x = Edges.with("0....5", "5....0");
            for (int officer : new int[] {0, 5, 6, 11}) {
                Edges.due("behind(" + officer + ", 0)", x.behind(officer, 0), Edges.HELD);
                Edges.due("behind(" + officer + ", 1)", x.behind(officer, 1), officer % 11 == 0 ? 0 : 5);
            }
            Edges.write(x, "A+fsfh");
            Edges.due("behind(0, 1)", x.behind(0, 1), 1);
            Edges.due("behind(11, 0)", x.behind(11, 0), Edges.AT_HOME);
            Edges.due("behind(5, 0)", x.behind(5, 0), Edges.HELD);
        });
        Edges.sentence("Promise 10", "UNKNOWN; OUTSIDE; NO, STATE, as of judge(2).", MonthEdges::refusedBehind);
    }

    private static void outsideJudge(ParoleLedger x) {
        for (int what : Edges.outside(0, 2)) {
            Edges.due("judge(" + what + ")", x.judge(what), Edges.OUTSIDE);
        }
    }

    private static void refusedBehind() {
        for (String text : new String[] {"", "As", "Ah", "A"}) {
            ParoleLedger x = Edges.write(Edges.with("2", "2"), text);
            for (int officer : Edges.outside(0, 11)) {
                Edges.due("behind(" + officer + ", 0)", x.behind(officer, 0), Edges.UNKNOWN);
                Edges.due("behind(" + officer + ", 2)", x.behind(officer, 2), Edges.UNKNOWN);
            }
            Edges.due("behind(1, 0): not there", x.behind(1, 0), Edges.UNKNOWN);
            Edges.due("behind(11, 0): not there", x.behind(11, 0), Edges.UNKNOWN);
            for (int what : Edges.outside(0, 1)) {
                Edges.due("behind(0, " + what + ")", x.behind(0, what), Edges.OUTSIDE);
            }
            int refusal = text.equals("A") ? Edges.NO : text.equals("Ah") ? Edges.STATE : 0;
            if (refusal != 0) {
                Edges.due("behind(0, 0) of " + text, x.behind(0, 0), refusal);
                Edges.due("behind(6, 1) of " + text, x.behind(6, 1), refusal);
            }
        }
    }

    private static void ledgerPromises() {
        Edges.sentence("Promise 11", "LEDGER: TRUST (what = 0), ours (1), theirs (2).", () -> {
            ParoleLedger x = Edges.with("34", "12");
            Edges.due("ledger(0) of an empty pad", x.ledger(0), 5);
            Edges.due("ledger(1) of an empty pad", x.ledger(1), 28);
            Edges.due("ledger(2) of an empty pad", x.ledger(2), 6);
            x.trust(0);
            Edges.due("ledger(0)", x.ledger(0), 0);
            x.trust(9);
            Edges.due("ledger(0)", x.ledger(0), 9);
        });
        Edges.sentence("Promise 11", "OUTSIDE; NO, STATE, likewise.", () -> {
            for (String text : new String[] {"", "Ah", "A"}) {
                ParoleLedger x = Edges.write(Edges.with("2", "2"), text);
                for (int what : Edges.outside(0, 2)) {
                    Edges.due("ledger(" + what + ")", x.ledger(what), Edges.OUTSIDE);
                }
                for (int what = 0; what < 3 && !text.isEmpty(); what++) {
                    Edges.due("ledger(" + what + ") of " + text, x.ledger(what),
                            text.equals("A") ? Edges.NO : Edges.STATE);
                }
            }
        });
        Edges.sentence("Promise 12", "MONTHS are DONE (the PAD is empty then): ACTS.", () -> {
            ParoleLedger x = Edges.with("222222", "222222");
            Edges.due("done() of an empty pad", x.done(), 0);
            Edges.write(x, "As");
            Edges.due("done() of one", x.done(), 1);
            Edges.due("told(0)", x.told(0), 0);
            Edges.due("done() again", x.done(), 0);
            Edges.due("told(40): once", x.told(40), Edges.WALKS);
            ParoleLedger y = Edges.write(Edges.with("222222", "222222"), manyActs() + "Fb");
            Edges.due("done() of a full pad", y.done(), 30);
            Edges.due("told(0)", y.told(0), 0);
            Edges.due("fault()", y.fault(), Edges.NONE);
            Edges.due("say(65)", y.say(65), 1);
            ParoleLedger z = Edges.write(Edges.with("22", "3"), "(AB:a)");
            Edges.due("done() of an exchange of many", z.done(), 1);
        });
        Edges.sentence("Promise 12", "NO, STATE, likewise.", () -> {
            ParoleLedger x = Edges.write(Edges.with("22", "2"), "AsBh");
            Edges.due("done(): the last can not be", x.done(), Edges.STATE);
            Edges.due("told(40): nothing is done", x.told(40), Edges.HELD);
            Edges.due("told(0): the pad stays", x.told(0), 4);
            x.say('(');
            Edges.due("done() with a fault", x.done(), Edges.NO);
            Edges.due("told(0): the pad stays", x.told(0), 5);
            Edges.write(x, "As!");
            Edges.due("done() with a fault", x.done(), Edges.NO);
            Edges.due("told(40): nothing is done", x.told(40), Edges.HELD);
        });
        Edges.sentence("Promise 13", "OWED.", () -> {
            ParoleLedger x = Edges.with("5", "4444");
            Edges.due("owed()", x.owed(), 980);
            Edges.act(x, "(A:abc)");
            Edges.due("owed()", x.owed(), 980);
            Edges.act(x, "dsdb");
            Edges.due("owed(): nobody is open", x.owed(), 1000);
        });
    }
}
