/** Each promise of the document: ordinary inputs, the edges that it names, wrong inputs. */
public final class PromiseTest {
    private static final int UNKNOWN = -1, OUTSIDE = -2, STATE = -3, FULL = -4, NO = -5, NONE = -6;
    private static final int[] WRONG = {Integer.MIN_VALUE, -100, 100000, Integer.MAX_VALUE};
    private static int wrong = 0;
    private static int checks = 0;
    private static String promise = "";

    private static void due(String call, long got, long want) {
        checks++;
        if (got != want) {
            wrong++;
            System.out.println(promise + ": " + call + " answered " + got + ", due is " + want);
        }
    }

    private static void say(ParoleLedger x, String text) {
        for (char c : text.toCharArray()) {
            x.say(c);
        }
    }

    /** Wipes the pad and writes a text on it. */
    private static void write(ParoleLedger x, String text) {
        x.wipe();
        say(x, text);
    }

    private static void act(ParoleLedger x, String text) {
        write(x, text);
        due("done() of " + text, x.done() > 0 ? 1 : 0, 1);
    }

    /** Officers by ranks told as digits, ours and theirs; a dot: nobody. */
    private static ParoleLedger with(String ours, String theirs) {
        ParoleLedger x = new ParoleLedger();
        for (int i = 0; i < ours.length(); i++) {
            if (ours.charAt(i) != '.') {
                x.officer(i, ours.charAt(i) - '0');
            }
        }
        for (int i = 0; i < theirs.length(); i++) {
            if (theirs.charAt(i) != '.') {
                x.officer(6 + i, theirs.charAt(i) - '0');
            }
        }
        return x;
    }

    public static void main(String[] args) {
        newObject();
        officer();
        leave();
        rate();
        trust();
        sayAndWipe();
        fault();
        judge();
        reasons();
        behind();
        ledger();
        done();
        owed();
        home();
        bring();
        lots();
        even();
        fair();
        seenAndForget();
        forged();
        rank();
        weigh();
        broken();
        rests();
        year();
        images();
        told();
        System.out.println(checks + " checks of promises, " + wrong + " wrong");
        if (wrong != 0) {
            System.exit(1);
        }
    }

    private static void newObject() {
        promise = "1 new object";
        ParoleLedger x = new ParoleLedger();
        int[] rates = {1, 2, 4, 8, 20, 60};
        for (int r = 0; r < 6; r++) {
            due("told(1" + r + ")", x.told(10 + r), rates[r]);
        }
        due("told(0)", x.told(0), 0);
        due("told(1)", x.told(1), 0);
        due("told(2)", x.told(2), 5);
        due("told(3)", x.told(3), 0);
        due("fault()", x.fault(), NONE);
        due("restore(0)", x.restore(0), STATE);
        due("restore(1)", x.restore(1), STATE);
    }

    private static void officer() {
        promise = "2 officer";
        ParoleLedger x = new ParoleLedger();
        due("officer(0, 0)", x.officer(0, 0), 1);
        due("officer(11, 5)", x.officer(11, 5), 2);
        due("officer(0, 3) anew", x.officer(0, 3), 2);
        due("told(20)", x.told(20), 3);
        act(x, "As");
        due("told(40)", x.told(40), 1);
        due("officer(0, 2) anew", x.officer(0, 2), 2);
        due("told(40): held", x.told(40), 0);
        due("told(20)", x.told(20), 2);
        due("officer(-1, 0)", x.officer(-1, 0), UNKNOWN);
        due("officer(12, 0)", x.officer(12, 0), UNKNOWN);
        due("officer(12, 6)", x.officer(12, 6), UNKNOWN);
        due("officer(0, 6)", x.officer(0, 6), OUTSIDE);
        due("officer(0, -1)", x.officer(0, -1), OUTSIDE);
        for (int w : WRONG) {
            due("officer(w, 0)", x.officer(w, 0), UNKNOWN);
            due("officer(0, w)", x.officer(0, w), OUTSIDE);
        }
        due("told(1)", x.told(1), 1 + 2048);
        due("told(20): nothing changed", x.told(20), 2);
    }

    private static void leave() {
        promise = "3 leave";
        ParoleLedger x = with("01", "2");
        due("leave(1)", x.leave(1), 2);
        due("leave(1) again", x.leave(1), UNKNOWN);
        due("leave(6)", x.leave(6), 1);
        due("leave(12)", x.leave(12), UNKNOWN);
        due("leave(-1)", x.leave(-1), UNKNOWN);
        due("leave(32)", x.leave(32), UNKNOWN);
        for (int w : WRONG) {
            due("leave(w)", x.leave(w), UNKNOWN);
        }
        due("leave(0)", x.leave(0), 0);
        due("told(20)", x.told(20), OUTSIDE);
    }

    private static void rate() {
        promise = "4 rate";
        ParoleLedger x = new ParoleLedger();
        due("rate(5, 99)", x.rate(5, 99), 60);
        due("rate(5, 1)", x.rate(5, 1), 99);
        due("rate(0, 1)", x.rate(0, 1), 1);
        due("rate(0, 0)", x.rate(0, 0), OUTSIDE);
        due("rate(0, 100)", x.rate(0, 100), OUTSIDE);
        due("rate(6, 1)", x.rate(6, 1), OUTSIDE);
        due("rate(-1, 1)", x.rate(-1, 1), OUTSIDE);
        for (int w : WRONG) {
            due("rate(w, 1)", x.rate(w, 1), OUTSIDE);
            due("rate(1, w)", x.rate(1, w), OUTSIDE);
        }
        due("told(10)", x.told(10), 1);
        due("told(15)", x.told(15), 1);
    }

    private static void trust() {
        promise = "5 trust";
        ParoleLedger x = new ParoleLedger();
        due("trust(0)", x.trust(0), 5);
        due("trust(9)", x.trust(9), 0);
        due("trust(10)", x.trust(10), OUTSIDE);
        due("trust(-1)", x.trust(-1), OUTSIDE);
        for (int w : WRONG) {
            due("trust(w)", x.trust(w), OUTSIDE);
        }
        due("told(2)", x.told(2), 9);
    }

    private static void sayAndWipe() {
        promise = "6 say, 7 wipe";
        ParoleLedger x = new ParoleLedger();
        due("wipe() of nothing", x.wipe(), 0);
        due("say(32)", x.say(32), OUTSIDE);
        due("say(127)", x.say(127), OUTSIDE);
        for (int w : WRONG) {
            due("say(w)", x.say(w), OUTSIDE);
        }
        due("say(33)", x.say(33), 1);
        due("say(126)", x.say(126), 2);
        for (int n = 3; n <= 60; n++) {
            due("say(65)", x.say(65), n);
        }
        due("say(65) more", x.say(65), FULL);
        due("say(32) more", x.say(32), OUTSIDE);
        due("told(0)", x.told(0), 60);
        due("wipe()", x.wipe(), 60);
        due("told(0)", x.told(0), 0);
        due("say(65)", x.say(65), 1);
    }

    private static void fault(String text, int want) {
        ParoleLedger x = new ParoleLedger();
        say(x, text);
        due("fault() of " + text, x.fault(), want);
        due("judge(0) of " + text, x.judge(0), want == NONE ? (text.isEmpty() ? NONE : 0) : NO);
    }

    private static void fault() {
        promise = "8 fault";
        fault("", NONE);
        fault("As", NONE);
        fault("ab", NONE);
        fault("F+fh", NONE);
        fault("(A:a)", NONE);
        fault("(AAF:aff)bs", NONE);
        fault("A", 1);
        fault("AsB", 3);
        fault("(", 1);
        fault("(A", 2);
        fault("(A:", 3);
        fault("(A:a", 4);
        fault("s", 0);
        fault("G", 0);
        fault("g", 0);
        fault("@", 0);
        fault("`", 0);
        fault("AA", 1);
        fault("Ax", 1);
        fault("As)", 2);
        fault("As:", 2);
        fault("(:a)", 1);
        fault("(a:A)", 1);
        fault("(Aa)", 2);
        fault("(A)", 2);
        fault("(A:)", 3);
        fault("(A:A)", 3);
        fault("(A:aA)", 4);
        fault("(A:a:", 4);
        fault("(A:a(", 4);
        fault("(G:a)", 1);
        fault("(A:g)", 3);
        fault("((", 1);
        fault("Asx", 2);
    }

    private static void judge() {
        promise = "9 judge";
        ParoleLedger x = with("25", "2");
        due("judge(0) of nothing", x.judge(0), NONE);
        due("judge(1) of nothing", x.judge(1), NONE);
        due("judge(2) of nothing", x.judge(2), 0);
        say(x, "AsAh(A:a)Bs");
        due("judge(0)", x.judge(0), NONE);
        due("judge(1)", x.judge(1), NONE);
        due("judge(2)", x.judge(2), 1);
        say(x, "AsBs");
        due("judge(0)", x.judge(0), 4);
        due("judge(1)", x.judge(1), 3);
        due("judge(2)", x.judge(2), STATE);
        say(x, "!");
        for (int what = 0; what < 3; what++) {
            due("judge with a fault", x.judge(what), NO);
        }
        due("judge(3)", x.judge(3), OUTSIDE);
        due("judge(-1)", x.judge(-1), OUTSIDE);
        for (int w : WRONG) {
            due("judge(w)", x.judge(w), OUTSIDE);
        }
        due("nothing is done", x.told(40), 0);
        due("the pad stays", x.told(0), 16);
    }

    private static void reason(ParoleLedger x, String text, int act, int why) {
        write(x, text);
        due("judge(0) of " + text, x.judge(0), act);
        due("judge(1) of " + text, x.judge(1), why);
        x.wipe();
    }

    private static void reasons() {
        promise = "9 why an act can not be";
        ParoleLedger x = with("205.3", "2031");
        reason(x, "Ds", 0, 1);
        reason(x, "(D:a)", 0, 1);
        reason(x, "(AA:f)", 0, 1);
        reason(x, "(AA:a)", 0, 2);
        reason(x, "(A:aa)", 0, 2);
        reason(x, "(A:a)(AA:a)", 1, 2);
        reason(x, "AsAs", 1, 3);
        reason(x, "Ah", 0, 3);
        reason(x, "AsAhAh", 2, 3);
        reason(x, "Ab", 0, 3);
        reason(x, "AsAbAb", 2, 3);
        reason(x, "AsAhAb", NONE, NONE);
        reason(x, "AsAbA+", 2, 3);
        reason(x, "AsAb(A:a)", 2, 3);
        reason(x, "(A:a)A+", 1, 3);
        reason(x, "(A:a)(A:a)", 1, 3);
        reason(x, "(A:a)As", 1, 3);
        reason(x, "(A:a)ab", 1, 3);
        reason(x, "C+", 0, 4);
        reason(x, "E+E+E+", 2, 4);
        reason(x, "AsAhA+", NONE, NONE);
        reason(x, "(A:b)", 0, 6);
        reason(x, "A+(A:c)", NONE, NONE);
        reason(x, "B+B+(B:a)", NONE, NONE);
        x.trust(0);
        reason(x, "As", 0, 5);
        reason(x, "(A:a)", 0, 5);
        reason(x, "(A:b)", 0, 5);
        reason(x, "A+", NONE, NONE);
        x.trust(1);
        reason(x, "AsBsAb(B:b)", 3, 5);
        reason(x, "AsAbBs", 2, 5);
        reason(x, "AsBsAbBb", NONE, NONE);
        reason(x, "AsBs(B:b)AbEs", NONE, NONE);
    }

    private static void behind() {
        promise = "10 behind";
        ParoleLedger x = with("234", "2");
        say(x, "A+A+BsBhCsCb(B:a)");
        due("behind(1, 0): 3 is not even with 2", x.behind(1, 0), STATE);
        write(x, "AsAhBsBb(A:a)C+");
        due("behind(0, 0)", x.behind(0, 0), 3);
        due("behind(1, 0)", x.behind(1, 0), 4);
        due("behind(2, 0)", x.behind(2, 0), 0);
        due("behind(2, 1)", x.behind(2, 1), 5);
        due("behind(6, 0)", x.behind(6, 0), 3);
        due("behind(6, 1)", x.behind(6, 1), 2);
        due("behind(7, 0)", x.behind(7, 0), UNKNOWN);
        due("behind(12, 3)", x.behind(12, 3), UNKNOWN);
        due("behind(0, 2)", x.behind(0, 2), OUTSIDE);
        due("behind(0, -1)", x.behind(0, -1), OUTSIDE);
        for (int w : WRONG) {
            due("behind(w, 0)", x.behind(w, 0), UNKNOWN);
            due("behind(0, w)", x.behind(0, w), OUTSIDE);
        }
        x.say('A');
        due("behind(0, 0) with a fault", x.behind(0, 0), NO);
        due("behind(0, 2) with a fault", x.behind(0, 2), OUTSIDE);
        due("nothing is done", x.told(40), 0);
    }

    private static void ledger() {
        promise = "11 ledger";
        ParoleLedger x = with("223", "235");
        due("ledger(0)", x.ledger(0), 5);
        due("ledger(1)", x.ledger(1), 16);
        due("ledger(2)", x.ledger(2), 72);
        say(x, "CsCbbsbh");
        due("ledger(0)", x.ledger(0), 4);
        due("ledger(1)", x.ledger(1), 8);
        due("ledger(2)", x.ledger(2), 72);
        say(x, "(AB:b)a+");
        due("ledger(0)", x.ledger(0), 5);
        due("ledger(1)", x.ledger(1), 0);
        due("ledger(2)", x.ledger(2), 68);
        x.trust(9);
        due("ledger(0)", x.ledger(0), 9);
        write(x, "(A:a)");
        due("ledger(0): 9 at most", x.ledger(0), 9);
        x.trust(0);
        due("ledger(0)", x.ledger(0), STATE);
        due("ledger(3)", x.ledger(3), OUTSIDE);
        due("ledger(-1)", x.ledger(-1), OUTSIDE);
        for (int w : WRONG) {
            due("ledger(w)", x.ledger(w), OUTSIDE);
        }
        x.say('(');
        due("ledger(1) with a fault", x.ledger(1), NO);
    }

    private static void done() {
        promise = "12 done";
        ParoleLedger x = with("22", "2");
        due("done() of nothing", x.done(), 0);
        say(x, "AsBsBhB+(A:a)");
        due("done()", x.done(), 5);
        due("told(0)", x.told(0), 0);
        due("told(2)", x.told(2), 6);
        due("told(40)", x.told(40), 3);
        due("told(41)", x.told(41), 2);
        due("told(21)", x.told(21), 3);
        due("told(46)", x.told(46), 3);
        say(x, "BbAs");
        due("done()", x.done(), STATE);
        due("told(41)", x.told(41), 2);
        due("told(0)", x.told(0), 4);
        x.say('A');
        due("done() with a fault", x.done(), NO);
        write(x, "Bb");
        x.trust(0);
        due("done()", x.done(), 1);
        due("told(2): 0 at least", x.told(2), 0);
        due("told(41)", x.told(41), 4);
    }

    private static void owed() {
        promise = "13 owed";
        ParoleLedger x = with("55", "0");
        due("owed()", x.owed(), 1119);
        x.leave(1);
        x.leave(0);
        due("owed()", x.owed(), 999);
        x = with("22", "23");
        act(x, "AsAbbs(B:a)");
        due("owed(): broken and free count nothing", x.owed(), 992);
        x = with("555555", "");
        x.rate(5, 99);
        due("owed()", x.owed(), 1594);
    }

    private static void home() {
        promise = "14 home";
        ParoleLedger x = new ParoleLedger();
        due("home(0) of nobody", x.home(0), NONE);
        due("home(1) of nobody", x.home(1), NONE);
        due("home(2) of nobody", x.home(2), NONE);
        x = with("23", "4");
        due("home(0): none is even", x.home(0), NONE);
        x = with("3322", "3322");
        due("home(0)", x.home(0), 4);
        due("home(1)", x.home(1), 15);
        due("home(2)", x.home(2), 15);
        x = with("..2222", "..3322");
        due("home(0)", x.home(0), 4);
        due("home(1)", x.home(1), 60);
        due("home(2): fewest of theirs", x.home(2), 12);
        x = with("222", "22");
        due("home(0)", x.home(0), 2);
        due("home(1): least bits of ours", x.home(1), 3);
        x = with("2", ".222");
        due("home(2): least bits of theirs", x.home(2), 2);
        x.trust(0);
        due("home(0): trust is no matter", x.home(0), 1);
        x.trust(5);
        act(x, "(A:b)");
        due("home(0): he is free", x.home(0), NONE);
        due("home(3)", x.home(3), OUTSIDE);
        due("home(-1)", x.home(-1), OUTSIDE);
        for (int w : WRONG) {
            due("home(w)", x.home(w), OUTSIDE);
        }
        x = with("22", "2");
        act(x, "AsAb");
        due("home(1): A has broken his word", x.home(1), 2);
    }

    private static void bring() {
        promise = "15 bring";
        ParoleLedger x = with("2233", "33223");
        due("bring(0, 0)", x.bring(0, 0), 1);
        due("bring(0, 1): fewest of ours", x.bring(0, 1), 1);
        due("bring(0, 2)", x.bring(0, 2), 4);
        due("bring(2, 1)", x.bring(2, 1), 4);
        due("bring(2, 2): least bits", x.bring(2, 2), 1);
        x = with("4222", "3322");
        due("bring(0, 0): rates 20 of 24", x.bring(0, 0), 3);
        due("bring(0, 1)", x.bring(0, 1), 1);
        due("bring(0, 2)", x.bring(0, 2), 7);
        due("bring(1, 0)", x.bring(1, 0), 1);
        x = with("2322", "3.");
        due("bring(0, 1)", x.bring(0, 1), 5);
        due("bring(3, 1)", x.bring(3, 1), 9);
        due("bring(3, 0)", x.bring(3, 0), 1);
        due("bring(1, 1)", x.bring(1, 1), 2);
        x = with("2.5", "3");
        due("bring(0, 0)", x.bring(0, 0), NONE);
        due("bring(0, 1)", x.bring(0, 1), NONE);
        due("bring(1, 0)", x.bring(1, 0), UNKNOWN);
        due("bring(6, 0): not ours", x.bring(6, 0), UNKNOWN);
        due("bring(-1, 0)", x.bring(-1, 0), UNKNOWN);
        due("bring(1, 3)", x.bring(1, 3), UNKNOWN);
        due("bring(0, 3)", x.bring(0, 3), OUTSIDE);
        due("bring(0, -1)", x.bring(0, -1), OUTSIDE);
        for (int w : WRONG) {
            due("bring(w, 0)", x.bring(w, 0), UNKNOWN);
            due("bring(0, w)", x.bring(0, w), OUTSIDE);
        }
        act(x, "AsAb");
        due("bring(0, 3): outside first", x.bring(0, 3), OUTSIDE);
        due("bring(0, 0): he is not open", x.bring(0, 0), STATE);
    }

    private static void lots() {
        promise = "16 lots";
        due("lots() of nobody", new ParoleLedger().lots(), 0);
        due("lots() of one side", with("012345", "").lots(), 0);
        due("lots() of six pairs", with("012345", "543210").lots(), 6);
        due("lots() of equals", with("333333", "333333").lots(), 6);
        due("lots(): two for one", with("2222", "33").lots(), 2);
        due("lots(): one of two", with("2230", "33").lots(), 2);
        due("lots(): one is left over", with("5", "4440").lots(), 1);
        ParoleLedger x = with("5", "444");
        due("lots(): a general for three", x.lots(), 1);
        act(x, "asab");
        due("lots(): one has broken his word", x.lots(), 0);
        x = with("012", "012");
        act(x, "(A:a)");
        due("lots(): one pair is free", x.lots(), 2);
        x = with("034", "125");
        x.rate(0, 3);
        x.rate(1, 5);
        x.rate(2, 7);
        x.rate(3, 9);
        x.rate(4, 10);
        x.rate(5, 10);
        due("lots(): 3 9 10 and 5 7 10", x.lots(), 2);
    }

    private static void even() {
        promise = "17 even";
        due("even() of nobody", new ParoleLedger().even(), 0);
        due("even() of one side", with("2", "").even(), 0);
        due("even()", with("22", "3").even(), 1);
        due("even()", with("22", "30").even(), 0);
        ParoleLedger x = with("22", "22");
        act(x, "(A:a)");
        due("even(): who is free is out", x.even(), 1);
        act(x, "Bsbsbb");
        due("even(): nobody of theirs is open", x.even(), 0);
        x = with("22", "2");
        due("even()", x.even(), 0);
        act(x, "AsAb");
        due("even()", x.even(), 1);
    }

    private static void fair() {
        promise = "18 fair";
        ParoleLedger x = with("53", "444");
        due("fair(5)", x.fair(5), 52);
        due("fair(3)", x.fair(3), NONE);
        due("fair(4)", x.fair(4), NONE);
        due("fair(0): not even, and nobody has it", x.fair(0), NONE);
        due("told(15): rates stay", x.told(15), 60);
        x = with("3", "3");
        due("fair(3): by each, the least", x.fair(3), 1);
        due("fair(0): even as it is", x.fair(0), 1);
        x = with("5", "44444");
        due("fair(5): over 99", x.fair(5), NONE);
        due("fair(4)", x.fair(4), 12);
        x.leave(10);
        x.officer(1, 0);
        x.rate(0, 19);
        due("fair(0)", x.fair(0), 20);
        x = with("5", "4444");
        x.officer(9, 0);
        x.rate(4, 33);
        x.rate(0, 1);
        due("fair(5): over 99 by one", x.fair(5), NONE);
        x.leave(9);
        due("fair(5): 99 itself", x.fair(5), 99);
        x = with("5", "");
        due("fair(5): one side alone", x.fair(5), NONE);
        due("fair(6)", x.fair(6), OUTSIDE);
        due("fair(-1)", x.fair(-1), OUTSIDE);
        for (int w : WRONG) {
            due("fair(w)", x.fair(w), OUTSIDE);
        }
    }

    private static void seenAndForget() {
        promise = "19 seen, 20 forget";
        ParoleLedger x = with("2.2", "...3.3");
        due("forget() of none", x.forget(), 0);
        due("seen(0, 8, true)", x.seen(0, 8, true), UNKNOWN);
        due("seen(1, 0, true)", x.seen(1, 0, true), UNKNOWN);
        due("seen(2, 8, true)", x.seen(2, 8, true), UNKNOWN);
        due("seen(7, 8, true)", x.seen(7, 8, true), UNKNOWN);
        due("seen(1, 1, true)", x.seen(1, 1, true), UNKNOWN);
        due("seen(64, 8, true)", x.seen(64, 8, true), UNKNOWN);
        due("seen(65, 8, true)", x.seen(65, 8, true), UNKNOWN);
        due("seen(512, 8, true)", x.seen(512, 8, true), UNKNOWN);
        due("seen(1, 72, true)", x.seen(1, 72, true), UNKNOWN);
        due("seen(1, 512, true)", x.seen(1, 512, true), UNKNOWN);
        for (int w : WRONG) {
            due("seen(w, 8, true)", x.seen(w, 8, true), UNKNOWN);
            due("seen(1, w, true)", x.seen(1, w, true), UNKNOWN);
        }
        due("told(3)", x.told(3), 0);
        for (int n = 1; n <= 8; n++) {
            due("seen(5, 8, true)", x.seen(5, 8, true), n);
        }
        due("seen(5, 8, true)", x.seen(5, 8, true), FULL);
        due("seen(5, 9, true)", x.seen(5, 9, true), UNKNOWN);
        due("told(3)", x.told(3), 8);
        due("forget()", x.forget(), 8);
        due("told(3)", x.told(3), 0);
        act(x, "AsAb");
        due("seen(1, 40, false): who has broken his word is there", x.seen(1, 40, false), 1);
        due("forged(0)", x.forged(0) > 1 ? 1 : 0, 1);
    }

    private static void forged() {
        promise = "21 forged";
        ParoleLedger x = new ParoleLedger();
        due("forged(0) of nobody", x.forged(0), 1);
        due("forged(1) of nobody", x.forged(1), 0);
        x = with("23", "2");
        due("forged(0)", x.forged(0), 16);
        due("forged(1)", x.forged(1), 67);
        x.seen(1, 1, true);
        due("forged(0): nobody, or the other one", x.forged(0), 6);
        due("forged(1)", x.forged(1), 2);
        x.seen(2, 1, true);
        due("forged(0)", x.forged(0), 1);
        due("forged(1)", x.forged(1), 2);
        due("rank(1)", x.rank(1), 2);
        x.seen(2, 1, false);
        due("forged(0): no world", x.forged(0), 0);
        due("forged(1)", x.forged(1), 0);
        due("weigh(0)", x.weigh(0), NONE);
        x.forget();
        x.seen(3, 1, true);
        due("forged(0): 4 and 8 for 4", x.forged(0), 0);
        x.leave(1);
        due("forged(0): who is there no more counts nothing", x.forged(0), 1);
        x.leave(0);
        due("forged(0): nothing is not 4", x.forged(0), 0);
        x.leave(6);
        due("forged(0): nothing is nothing", x.forged(0), 1);
        x.officer(0, 3);
        x.officer(6, 3);
        due("forged(0): they are again", x.forged(0), 1);
        x.rate(3, 4);
        due("forged(0): rates as now, 2 and 3 are alike", x.forged(0), 3);
        due("forged(2)", x.forged(2), OUTSIDE);
        due("forged(-1)", x.forged(-1), OUTSIDE);
        for (int w : WRONG) {
            due("forged(w)", x.forged(w), OUTSIDE);
        }
    }

    private static void rank() {
        promise = "22 rank";
        ParoleLedger x = with("0", "3");
        due("rank(0): the least but his own", x.rank(0), 1);
        due("rank(6)", x.rank(6), 0);
        x.seen(1, 1, true);
        due("rank(0)", x.rank(0), 3);
        due("rank(6)", x.rank(6), 0);
        x.seen(1, 1, false);
        due("rank(0)", x.rank(0), NONE);
        due("rank(1)", x.rank(1), UNKNOWN);
        due("rank(12)", x.rank(12), UNKNOWN);
        due("rank(-1)", x.rank(-1), UNKNOWN);
        for (int w : WRONG) {
            due("rank(w)", x.rank(w), UNKNOWN);
        }
        x.leave(0);
        due("rank(0)", x.rank(0), UNKNOWN);
    }

    private static void weigh() {
        promise = "23 weigh";
        ParoleLedger x = with("2", "");
        due("weigh(0): no such two", x.weigh(0), NONE);
        due("weigh(1): no such two", x.weigh(1), NONE);
        x = with("..2", ".2");
        due("weigh(0)", x.weigh(0), 31);
        due("weigh(1)", x.weigh(1), 10);
        x = with("23", "32");
        due("weigh(0): the least of pairs alike", x.weigh(0), 7);
        due("weigh(1): 10 make it uneven, 11 do not", x.weigh(1), 11);
        x.seen(1, 1, true);
        due("weigh(0): A was 3, or a 2", x.weigh(0), 7);
        due("weigh(1)", x.weigh(1), 1);
        x.seen(1, 2, false);
        due("weigh(1): one world", x.weigh(1), 1);
        due("weigh(0): of alike the least", x.weigh(0), 6);
        x.seen(1, 1, false);
        due("weigh(0): no world", x.weigh(0), NONE);
        due("weigh(1): no world", x.weigh(1), NONE);
        due("weigh(2)", x.weigh(2), OUTSIDE);
        due("weigh(-1)", x.weigh(-1), OUTSIDE);
        for (int w : WRONG) {
            due("weigh(w)", x.weigh(w), OUTSIDE);
        }
    }

    private static void fraction(ParoleLedger x, int t, int k, long upper, long lower) {
        due("broken(" + t + ", " + k + ", 0)", x.broken(t, k, 0), upper);
        due("broken(" + t + ", " + k + ", 1)", x.broken(t, k, 1), lower);
    }

    private static void broken() {
        promise = "24 broken";
        ParoleLedger x = with("222", "222");
        fraction(x, 5, 5, 1, 1);
        fraction(x, 5, 6, 0, 1);
        fraction(x, 5, -1, 5, 1);
        act(x, "AsAhBsas");
        fraction(x, 5, 5, 1, 8);
        fraction(x, 5, 4, 1, 2);
        fraction(x, 5, 3, 7, 8);
        fraction(x, 5, 2, 1, 1);
        fraction(x, 5, 0, 1, 1);
        fraction(x, 5, 9, 0, 1);
        fraction(x, 5, -1, 7, 2);
        fraction(x, 0, 5, 1, 1);
        fraction(x, 10, 3, 0, 1);
        fraction(x, 10, 2, 1, 1);
        fraction(x, 1, 4, 243, 250);
        x.trust(1);
        fraction(x, 5, -1, 1, 8);
        fraction(x, 5, 1, 1, 8);
        fraction(x, 5, 0, 1, 1);
        x.trust(0);
        fraction(x, 5, -1, 0, 1);
        x = with("222222", "222222");
        act(x, "AsBsCsDsEsFsasbscsdsesfs");
        x.trust(9);
        fraction(x, 3, 9, 13841287201L, 1000000000000L);
        fraction(x, 5, 9, 1, 4096);
        long gone = -1000000000000000002L;
        int[][] bad = {{-1, 0, 0}, {11, 0, 0}, {5, -2, 0}, {5, 10, 0}, {5, 5, 2}, {5, 5, -1}};
        for (int[] b : bad) {
            due("broken(" + b[0] + ", " + b[1] + ", " + b[2] + ")", x.broken(b[0], b[1], b[2]), gone);
        }
        for (int w : WRONG) {
            due("broken(w, 0, 0)", x.broken(w, 0, 0), gone);
            due("broken(0, w, 0)", x.broken(0, w, 0), gone);
            due("broken(0, 0, w)", x.broken(0, 0, w), gone);
        }
    }

    private static void rest(ParoleLedger x, int[] call, int sets, int fewest, int most) {
        String s = "rests(" + call[0] + ", " + call[1] + ", " + call[2] + ", ";
        due(s + "0)", x.rests(call[0], call[1], call[2], 0), sets);
        due(s + "1)", x.rests(call[0], call[1], call[2], 1), fewest);
        due(s + "2)", x.rests(call[0], call[1], call[2], 2), most);
    }

    private static void rests() {
        promise = "25 rests";
        ParoleLedger x = with("2222", "2");
        rest(x, new int[] {0, 9, 3}, 1, 0, 0);
        act(x, "AsAhBsCsDsas");
        rest(x, new int[] {0, 6, 4}, 4, 1, 1);
        rest(x, new int[] {0, 6, 3}, 4 + 6, 1, 2);
        rest(x, new int[] {0, 99, 0}, 1, 4, 4);
        rest(x, new int[] {0, 0, 99}, 1, 0, 0);
        rest(x, new int[] {0, 0, 0}, 16, 0, 4);
        rest(x, new int[] {0, 3, 3}, 5, 0, 1);
        rest(x, new int[] {1, 2, 1}, 1, 1, 1);
        act(x, "Db");
        rest(x, new int[] {0, 0, 0}, 8, 0, 3);
        int[][] bad = {{-1, 0, 0, 0}, {2, 0, 0, 0}, {0, -1, 0, 0}, {0, 100, 0, 0}, {0, 0, -1, 0},
            {0, 0, 100, 0}, {0, 0, 0, -1}, {0, 0, 0, 3}};
        for (int[] b : bad) {
            due("rests of a wrong number", x.rests(b[0], b[1], b[2], b[3]), OUTSIDE);
        }
        for (int w : WRONG) {
            due("rests(w, 0, 0, 0)", x.rests(w, 0, 0, 0), OUTSIDE);
            due("rests(0, w, 0, 0)", x.rests(0, w, 0, 0), OUTSIDE);
            due("rests(0, 0, w, 0)", x.rests(0, 0, w, 0), OUTSIDE);
            due("rests(0, 0, 0, w)", x.rests(0, 0, 0, w), OUTSIDE);
        }
    }

    /** The first seed whose first draw is of this officer, kind and other's number. */
    private static int seedFor(int officer, int kind, int other) {
        for (int seed = 0; seed < 10000; seed++) {
            int x = (75 * seed + 74) % 65537;
            if (x % 12 == officer && x / 12 % 6 == kind && x / 72 % 6 == other) {
                return seed;
            }
        }
        throw new IllegalStateException("no such seed");
    }

    private static void year() {
        promise = "26 year";
        ParoleLedger x = with("222222", "222222");
        for (int kind = 4; kind < 6; kind++) {
            due("year: A for c", x.year(seedFor(0, kind, 2), 1, 0), 1);
            due("year: f for B", x.year(seedFor(11, kind, 1), 1, 0), 1);
            due("year: trust", x.year(seedFor(11, kind, 1), 1, 2), 6);
        }
        x.officer(8, 3);
        due("year: A is not even with c", x.year(seedFor(0, 4, 2), 1, 0), 0);
        due("year: nobody swore", x.year(seedFor(3, 2, 0), 1, 1), 0);
        act(x, "DsDh");
        due("year: D breaks it", x.year(seedFor(3, 2, 0), 1, 1), 1);
        due("year: trust is less", x.year(seedFor(3, 2, 0), 1, 2), 4);
        due("told(43): nothing is done", x.told(43), 2);
        due("told(2)", x.told(2), 5);
        x.leave(3);
        due("year: D is no more", x.year(seedFor(3, 2, 0), 1, 1), 0);
        x.trust(0);
        due("year: no trust", x.year(seedFor(11, 4, 1), 1, 0), 0);
        x.trust(9);
        due("year: trust 9 at most", x.year(seedFor(11, 4, 1), 1, 2), 9);
        int[][] bad = {{-1, 1, 0}, {10000, 1, 0}, {0, 0, 0}, {0, 100, 0}, {0, 1, -1}, {0, 1, 3}};
        for (int[] b : bad) {
            due("year of a wrong number", x.year(b[0], b[1], b[2]), OUTSIDE);
        }
        for (int w : WRONG) {
            due("year(w, 1, 0)", x.year(w, 1, 0), OUTSIDE);
            due("year(0, w, 0)", x.year(0, w, 0), OUTSIDE);
            due("year(0, 1, w)", x.year(0, 1, w), OUTSIDE);
        }
    }

    private static void images() {
        promise = "27 image, 28 restore";
        ParoleLedger x = with("22", "2");
        x.seen(1, 1, true);
        act(x, "Bs");
        say(x, "As");
        due("restore(0)", x.restore(0), STATE);
        due("image(0)", x.image(0), 1);
        due("restore(1)", x.restore(1), STATE);
        x.officer(3, 4);
        x.leave(0);
        x.rate(2, 9);
        x.trust(8);
        x.forget();
        x.seen(8, 1, false);
        x.seen(8, 1, false);
        due("image(1)", x.image(1), 1);
        x.say('B');
        due("restore(0)", x.restore(0), 1);
        due("told(0): the pad stays", x.told(0), 3);
        due("told(1)", x.told(1), 67);
        due("told(2)", x.told(2), 5);
        due("told(3)", x.told(3), 1);
        due("told(12)", x.told(12), 4);
        due("told(41)", x.told(41), 1);
        due("forged(0): the sight was even", x.forged(0), 6);
        due("restore(1)", x.restore(1), 1);
        due("told(1)", x.told(1), 2 + 8 + 64);
        due("told(2)", x.told(2), 8);
        due("told(3)", x.told(3), 2);
        due("told(12)", x.told(12), 9);
        due("told(23)", x.told(23), 4);
        due("forged(0): the sights were not even", x.forged(0), 14);
        x.officer(3, 0);
        due("restore(1) again", x.restore(1), 1);
        due("told(23)", x.told(23), 4);
        for (int k : new int[] {-1, 2, Integer.MIN_VALUE, Integer.MAX_VALUE}) {
            due("image(" + k + ")", x.image(k), OUTSIDE);
            due("restore(" + k + ")", x.restore(k), OUTSIDE);
        }
    }

    private static void told() {
        promise = "29 told";
        ParoleLedger x = with("2.....", ".....4");
        x.rate(5, 77);
        x.trust(3);
        x.seen(1, 32, false);
        act(x, "fs");
        say(x, "A");
        due("told(0)", x.told(0), 1);
        due("told(1)", x.told(1), 2049);
        due("told(2)", x.told(2), 3);
        due("told(3)", x.told(3), 1);
        due("told(10)", x.told(10), 1);
        due("told(15)", x.told(15), 77);
        due("told(20)", x.told(20), 2);
        due("told(31)", x.told(31), 4);
        due("told(40)", x.told(40), 0);
        due("told(51)", x.told(51), 1);
        for (int what : new int[] {-1, 4, 9, 16, 19, 21, 30, 32, 39, 41, 50, 52, 60}) {
            due("told(" + what + ")", x.told(what), OUTSIDE);
        }
        for (int w : WRONG) {
            due("told(w)", x.told(w), OUTSIDE);
        }
    }
}
