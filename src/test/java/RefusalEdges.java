import java.util.ArrayList;
import java.util.List;
import java.util.function.ToLongFunction;

/** Refused calls, fractions, sets, the constants, the last call of an object. */
final class RefusalEdges {
    private static final String TERMS = "Terms";

    /** A call that is refused, and its answer. */
    private record Refused(String name, ToLongFunction<ParoleLedger> call, long answer) { }

    private RefusalEdges() {
    }

    static void run() {
        Edges.sentence("What it is",
                "An object is used for at most 512 calls after it has been made; what later calls answer is free.",
                RefusalEdges::lastCalls);
        Edges.sentence(TERMS, "Calls that are refused answer, the first of these that fits: "
                + "UNKNOWN -1 (there is no such OFFICER), OUTSIDE -2 (another number is not as told), NO -5 (as told), "
                + "STATE -3 (as told), FULL -4; where a call names them in another order, in that.",
                RefusalEdges::firstThatFits);
        Edges.sentence(TERMS, "They change nothing", RefusalEdges::changeNothing);
        Edges.sentence(TERMS, "(a sign that is said changes what fault() tells).", RefusalEdges::signChangesFault);
        Edges.sentence(TERMS, "Fractions are told in lowest terms by part: 0 the upper, 1 the lower number; "
                + "refused with GONE and the refusal.", RefusalEdges::fractions);
        Edges.sentence(TERMS, "Sets are bits.", RefusalEdges::sets);
        Edges.sentence(TERMS, "What refused calls answer; NONE: there is none.", RefusalEdges::constants);
        Edges.sentence(TERMS, "What is told of fractions that are refused: GONE and the refusal.", () -> {
            Edges.due("GONE", ParoleLedger.GONE, -1000000000000000000L);
            Edges.due("broken(11, 0, 0)", new ParoleLedger().broken(11, 0, 0),
                    ParoleLedger.GONE + ParoleLedger.OUTSIDE);
        });
    }

    private static void lastCalls() {
        ParoleLedger x = new ParoleLedger();
        for (int call = 1; call <= 510; call++) {
            Edges.due("officer() as call " + call, x.officer(call % 12, call % 6), Math.min(call, 12));
        }
        Edges.due("told(1) as call 511", x.told(1), 4095);
        Edges.due("lots() as call 512", x.lots(), 6);
    }

    private static void firstThatFits() {
        ParoleLedger x = Edges.act(Edges.with("22", "2"), "AsAb");
        Edges.due("officer(12, 6): UNKNOWN before OUTSIDE", x.officer(12, 6), Edges.UNKNOWN);
        Edges.due("bring(2, 3): UNKNOWN before OUTSIDE", x.bring(2, 3), Edges.UNKNOWN);
        Edges.due("bring(0, 3): OUTSIDE before STATE", x.bring(0, 3), Edges.OUTSIDE);
        Edges.due("bring(0, 2): STATE", x.bring(0, 2), Edges.STATE);
        Edges.due("restore(2): OUTSIDE before STATE", x.restore(2), Edges.OUTSIDE);
        Edges.write(x, "AsB");
        Edges.due("behind(2, 2): UNKNOWN before OUTSIDE", x.behind(2, 2), Edges.UNKNOWN);
        Edges.due("behind(2, 0): UNKNOWN before NO", x.behind(2, 0), Edges.UNKNOWN);
        Edges.due("behind(0, 2): OUTSIDE before NO", x.behind(0, 2), Edges.OUTSIDE);
        Edges.due("judge(3): OUTSIDE before NO", x.judge(3), Edges.OUTSIDE);
        Edges.due("ledger(3): OUTSIDE before NO", x.ledger(3), Edges.OUTSIDE);
        Edges.due("judge(2): NO before STATE", x.judge(2), Edges.NO);
        Edges.due("behind(0, 0): NO before STATE", x.behind(0, 0), Edges.NO);
        Edges.due("ledger(0): NO before STATE", x.ledger(0), Edges.NO);
        Edges.due("done(): NO before STATE", x.done(), Edges.NO);
        Edges.write(x, "As");
        Edges.due("behind(2, 0): UNKNOWN before STATE", x.behind(2, 0), Edges.UNKNOWN);
        Edges.due("behind(0, 2): OUTSIDE before STATE", x.behind(0, 2), Edges.OUTSIDE);
        Edges.due("ledger(-1): OUTSIDE before STATE", x.ledger(-1), Edges.OUTSIDE);
        Edges.write(x, "As".repeat(30));
        Edges.due("say(32): OUTSIDE before FULL", x.say(32), Edges.OUTSIDE);
        Edges.due("say(65): FULL", x.say(65), Edges.FULL);
        for (int n = 0; n < 8; n++) {
            x.seen(1, 1, true);
        }
        Edges.due("seen(4, 1, true): UNKNOWN before FULL", x.seen(4, 1, true), Edges.UNKNOWN);
        Edges.due("seen(1, 0, true): UNKNOWN before FULL", x.seen(1, 0, true), Edges.UNKNOWN);
        Edges.due("seen(1, 1, true): FULL", x.seen(1, 1, true), Edges.FULL);
    }

    /** Officers of every kind, other rates and trust, sights, and an image of how it was before. */
    private static ParoleLedger rich(String pad) {
        ParoleLedger x = Edges.with("23504", "4302");
        x.image(0);
        x.rate(1, 3);
        Edges.act(x, "BsCsChEsEb(D:c)ds");
        x.trust(7);
        x.seen(3, 2, false);
        x.seen(1, 8, true);
        return Edges.write(x, pad);
    }

    private static void changeNothing() {
        refuseAll("AsA+", alwaysRefused());
        refuseAll("AsA", List.of(
                new Refused("judge(0)", x -> x.judge(0), Edges.NO), new Refused("judge(1)", x -> x.judge(1), Edges.NO),
                new Refused("judge(2)", x -> x.judge(2), Edges.NO), new Refused("done()", x -> x.done(), Edges.NO),
                new Refused("behind(0, 0)", x -> x.behind(0, 0), Edges.NO),
                new Refused("ledger(0)", x -> x.ledger(0), Edges.NO)));
        refuseAll("A+As(A:a)", List.of(
                new Refused("judge(2)", x -> x.judge(2), Edges.STATE),
                new Refused("behind(0, 1)", x -> x.behind(0, 1), Edges.STATE),
                new Refused("ledger(1)", x -> x.ledger(1), Edges.STATE),
                new Refused("done()", x -> x.done(), Edges.STATE)));
        refuseAll("A+".repeat(30), List.of(new Refused("say(65)", x -> x.say(65), Edges.FULL)));
        fullSights();
    }

    private static List<Refused> alwaysRefused() {
        List<Refused> all = new ArrayList<>(List.of(
                new Refused("officer(12, 0)", x -> x.officer(12, 0), Edges.UNKNOWN),
                new Refused("officer(-1, 0)", x -> x.officer(-1, 0), Edges.UNKNOWN),
                new Refused("officer(32, 0)", x -> x.officer(32, 0), Edges.UNKNOWN),
                new Refused("officer(1, 6)", x -> x.officer(1, 6), Edges.OUTSIDE),
                new Refused("officer(5, -1)", x -> x.officer(5, -1), Edges.OUTSIDE),
                new Refused("leave(5)", x -> x.leave(5), Edges.UNKNOWN),
                new Refused("leave(32)", x -> x.leave(32), Edges.UNKNOWN),
                new Refused("rate(0, 0)", x -> x.rate(0, 0), Edges.OUTSIDE),
                new Refused("rate(0, 100)", x -> x.rate(0, 100), Edges.OUTSIDE),
                new Refused("rate(6, 5)", x -> x.rate(6, 5), Edges.OUTSIDE),
                new Refused("trust(10)", x -> x.trust(10), Edges.OUTSIDE),
                new Refused("trust(-1)", x -> x.trust(-1), Edges.OUTSIDE),
                new Refused("say(32)", x -> x.say(32), Edges.OUTSIDE),
                new Refused("say(127)", x -> x.say(127), Edges.OUTSIDE),
                new Refused("judge(3)", x -> x.judge(3), Edges.OUTSIDE),
                new Refused("behind(5, 0)", x -> x.behind(5, 0), Edges.UNKNOWN),
                new Refused("behind(0, 2)", x -> x.behind(0, 2), Edges.OUTSIDE),
                new Refused("ledger(3)", x -> x.ledger(3), Edges.OUTSIDE),
                new Refused("home(3)", x -> x.home(3), Edges.OUTSIDE),
                new Refused("bring(5, 0)", x -> x.bring(5, 0), Edges.UNKNOWN),
                new Refused("bring(6, 0)", x -> x.bring(6, 0), Edges.UNKNOWN),
                new Refused("bring(0, 3)", x -> x.bring(0, 3), Edges.OUTSIDE),
                new Refused("bring(3, 0)", x -> x.bring(3, 0), Edges.STATE),
                new Refused("bring(4, 0)", x -> x.bring(4, 0), Edges.STATE)));
        all.addAll(List.of(
                new Refused("fair(6)", x -> x.fair(6), Edges.OUTSIDE),
                new Refused("seen(0, 1, true)", x -> x.seen(0, 1, true), Edges.UNKNOWN),
                new Refused("seen(1, 0, true)", x -> x.seen(1, 0, true), Edges.UNKNOWN),
                new Refused("seen(33, 1, true)", x -> x.seen(33, 1, true), Edges.UNKNOWN),
                new Refused("seen(1, 17, true)", x -> x.seen(1, 17, true), Edges.UNKNOWN),
                new Refused("forged(2)", x -> x.forged(2), Edges.OUTSIDE),
                new Refused("rank(5)", x -> x.rank(5), Edges.UNKNOWN),
                new Refused("weigh(2)", x -> x.weigh(2), Edges.OUTSIDE),
                new Refused("broken(11, 0, 0)", x -> x.broken(11, 0, 0), Edges.GONE_OUTSIDE),
                new Refused("broken(0, 10, 0)", x -> x.broken(0, 10, 0), Edges.GONE_OUTSIDE),
                new Refused("broken(0, 0, 2)", x -> x.broken(0, 0, 2), Edges.GONE_OUTSIDE),
                new Refused("rests(2, 0, 0, 0)", x -> x.rests(2, 0, 0, 0), Edges.OUTSIDE),
                new Refused("rests(0, 100, 0, 0)", x -> x.rests(0, 100, 0, 0), Edges.OUTSIDE),
                new Refused("rests(0, 0, 100, 0)", x -> x.rests(0, 0, 100, 0), Edges.OUTSIDE),
                new Refused("rests(0, 0, 0, 3)", x -> x.rests(0, 0, 0, 3), Edges.OUTSIDE),
                new Refused("year(10000, 1, 0)", x -> x.year(10000, 1, 0), Edges.OUTSIDE),
                new Refused("year(0, 100, 0)", x -> x.year(0, 100, 0), Edges.OUTSIDE),
                new Refused("year(0, 1, 3)", x -> x.year(0, 1, 3), Edges.OUTSIDE),
                new Refused("image(2)", x -> x.image(2), Edges.OUTSIDE),
                new Refused("image(-1)", x -> x.image(-1), Edges.OUTSIDE),
                new Refused("restore(2)", x -> x.restore(2), Edges.OUTSIDE),
                new Refused("restore(1)", x -> x.restore(1), Edges.STATE),
                new Refused("told(52)", x -> x.told(52), Edges.OUTSIDE)));
        return all;
    }

    /** Each refused call on an object of its own: all that can be read, and the images, stay. */
    private static void refuseAll(String pad, List<Refused> calls) {
        for (Refused refused : calls) {
            ParoleLedger x = rich(pad);
            ParoleLedger untouched = rich(pad);
            Edges.due(refused.name, refused.call.applyAsLong(x), refused.answer);
            Edges.same(refused.name, Edges.all(x), Edges.all(untouched));
            Edges.due("restore(1) behind " + refused.name, x.restore(1), Edges.STATE);
            x.restore(0);
            untouched.restore(0);
            Edges.same(refused.name + " and restore(0)", Edges.all(x), Edges.all(untouched));
        }
    }

    private static void fullSights() {
        ParoleLedger x = rich("As");
        for (int n = 3; n <= 8; n++) {
            Edges.due("seen(1, 2, false)", x.seen(1, 2, false), n);
        }
        String before = Edges.all(x);
        Edges.due("seen(1, 2, true)", x.seen(1, 2, true), Edges.FULL);
        Edges.same("seen(1, 2, true)", Edges.all(x), before);
    }

    private static void signChangesFault() {
        ParoleLedger x = new ParoleLedger();
        int[] faults = {1, 2, 3, 4, Edges.NONE, 6, Edges.NONE, 7, 7};
        String text = "(A:a)As!!";
        for (int i = 0; i < text.length(); i++) {
            x.say(text.charAt(i));
            Edges.due("fault() of " + text.substring(0, i + 1), x.fault(), faults[i]);
        }
        Edges.write(x, "A");
        Edges.due("say(32)", x.say(32), Edges.OUTSIDE);
        Edges.due("fault(): a refused sign was not said", x.fault(), 1);
        Edges.write(x, "A".repeat(60));
        Edges.due("say('s')", x.say('s'), Edges.FULL);
        Edges.due("fault(): nor is one on a full pad", x.fault(), 1);
    }

    private static void fractions() {
        ParoleLedger x = Edges.act(Edges.with("222", "222"), "AsBsas");
        Edges.due("broken(0, 9, 0): none", x.broken(0, 9, 0), 0);
        Edges.due("broken(0, 9, 1): none", x.broken(0, 9, 1), 1);
        Edges.due("broken(0, 0, 0): all", x.broken(0, 0, 0), 1);
        Edges.due("broken(0, 0, 1): all", x.broken(0, 0, 1), 1);
        for (int t = 0; t <= 10; t++) {
            for (int k = -1; k <= 9; k++) {
                Edges.due("common divisor of broken(" + t + ", " + k + ")",
                        commonDivisor(x.broken(t, k, 0), x.broken(t, k, 1)), 1);
            }
        }
        for (int part : Edges.outside(0, 1)) {
            Edges.due("broken(5, 5, " + part + ")", x.broken(5, 5, part), Edges.GONE_OUTSIDE);
        }
    }

    private static long commonDivisor(long a, long b) {
        return b == 0 ? a : commonDivisor(b, a % b);
    }

    private static void sets() {
        ParoleLedger x = Edges.with("2....2", "2....2");
        Edges.due("told(1)", x.told(1), 1 + 32 + 64 + 2048);
        Edges.due("home(1)", x.home(1), 33);
        Edges.due("home(2)", x.home(2), 33);
        Edges.due("bring(5, 1)", x.bring(5, 1), 32);
        Edges.due("forged(1)", x.forged(1), 1 + 32 + 64 + 2048);
    }

    private static void constants() {
        Edges.due("UNKNOWN", ParoleLedger.UNKNOWN, -1);
        Edges.due("OUTSIDE", ParoleLedger.OUTSIDE, -2);
        Edges.due("STATE", ParoleLedger.STATE, -3);
        Edges.due("FULL", ParoleLedger.FULL, -4);
        Edges.due("NO", ParoleLedger.NO, -5);
        Edges.due("NONE", ParoleLedger.NONE, -6);
    }
}
