import java.util.ArrayList;
import java.util.List;
import java.util.Random;

/** Drawn runs of calls, each answered by the class and by Model. */
public final class ModelTest {
    private static final int RUNS = 1500;
    /** Nothing is promised beyond 512 calls; a step makes fewer than 60. */
    private static final int CALLS = 512, MOST_IN_A_STEP = 60;
    private static final String ACT_SIGNS = "ABCDEFabcdefshb+(:)";
    private static int wrong = 0;

    private final Random draw;
    private final ParoleLedger x = new ParoleLedger();
    private final Model m = new Model();
    private final List<String> log = new ArrayList<>();
    private final int style;
    private int calls = 0;
    private boolean failed = false;

    private ModelTest(long seed) {
        draw = new Random(seed);
        style = (int) (seed % 4);
    }

    public static void main(String[] args) {
        int total = 0;
        for (int run = 0; run < RUNS && wrong < 5; run++) {
            ModelTest test = new ModelTest(run);
            test.run();
            total += test.calls;
        }
        System.out.println(total + " drawn calls, " + wrong + " runs with a wrong answer");
        if (wrong != 0) {
            System.exit(1);
        }
    }

    private void run() {
        settle();
        while (calls <= CALLS - MOST_IN_A_STEP && !failed) {
            step();
        }
        if (failed) {
            wrong++;
            System.out.println(String.join("\n  ", log));
        }
    }

    private void due(String call, long got, long want) {
        calls++;
        log.add(call + " = " + got);
        if (got != want && !failed) {
            failed = true;
            log.add("^ due is " + want);
        }
    }

    /** A number mostly from least to most, at times just or far outside. */
    private int near(int least, int most) {
        int d = draw.nextInt(40);
        if (d == 0) {
            return least - 1;
        }
        if (d == 1) {
            return most + 1;
        }
        if (d == 2) {
            return draw.nextInt();
        }
        return least + draw.nextInt(most - least + 1);
    }

    /** Some who are there at first, with rates by which much is even. */
    private void settle() {
        if (style == 1 || style == 3) {
            for (int r = 0; r < 6; r++) {
                setRate(r, style == 1 ? 1 + draw.nextInt(4) : 1 + draw.nextInt(99));
            }
        }
        for (int i = 0; i < 12; i++) {
            if (draw.nextInt(8) != 0) {
                setOfficer(i, draw.nextInt(6));
            }
        }
    }

    private void setRate(int r, int v) {
        due("rate(" + r + ", " + v + ")", x.rate(r, v), m.rate(r, v));
    }

    private void setOfficer(int i, int r) {
        due("officer(" + i + ", " + r + ")", x.officer(i, r), m.officer(i, r));
    }

    private void sayAll(String text) {
        for (char c : text.toCharArray()) {
            due("say(" + (int) c + ")", x.say(c), m.say(c));
        }
    }

    private String letters(char from) {
        StringBuilder s = new StringBuilder();
        int n = 1 + draw.nextInt(3);
        for (int i = 0; i < n; i++) {
            s.append((char) (from + draw.nextInt(6)));
        }
        return s.toString();
    }

    private String drawnAct() {
        if (draw.nextInt(4) == 0) {
            return "(" + letters('A') + ":" + letters('a') + ")";
        }
        char letter = "ABCDEFabcdef".charAt(draw.nextInt(12));
        return "" + letter + "sshb+".charAt(draw.nextInt(5));
    }

    /** The exchange by which most come home, as an act, so that exchanges are done often. */
    private String evenExchange() {
        int ours = m.home(1);
        int theirs = m.home(2);
        if (draw.nextBoolean()) {
            int officer = draw.nextInt(6);
            ours = m.bring(officer, 1);
            theirs = m.bring(officer, 2);
        }
        if (ours <= 0 || theirs <= 0) {
            return drawnAct();
        }
        StringBuilder s = new StringBuilder("(");
        for (int i = 0; i < 6; i++) {
            s.append((ours >> i & 1) == 1 ? "" + (char) ('A' + i) : "");
        }
        s.append(":");
        for (int i = 0; i < 6; i++) {
            s.append((theirs >> i & 1) == 1 ? "" + (char) ('a' + i) : "");
        }
        return s.append(")").toString();
    }

    private void step() {
        int d = draw.nextInt(100);
        if (d < 12) {
            facts();
        } else if (d < 35) {
            months();
        } else if (d < 55) {
            readings();
        } else if (d < 70) {
            exchanges();
        } else if (d < 84) {
            sights();
        } else if (d < 96) {
            chances();
        } else {
            imagesAndTold();
        }
    }

    private void facts() {
        int a = near(0, 11);
        int r = near(0, 5);
        switch (draw.nextInt(6)) {
            case 0, 1 -> setOfficer(a, r);
            case 2 -> due("leave(" + a + ")", x.leave(a), m.leave(a));
            case 3 -> setRate(r, near(1, style == 2 ? 99 : 9));
            case 4 -> {
                int v = near(0, 9);
                due("trust(" + v + ")", x.trust(v), m.trust(v));
            }
            default -> setOfficer(draw.nextInt(12), draw.nextInt(6));
        }
    }

    private void months() {
        switch (draw.nextInt(10)) {
            case 0, 1, 2, 3 -> sayAll(drawnAct());
            case 4, 5 -> sayAll(evenExchange());
            case 6 -> {
                int sign = draw.nextBoolean() ? ACT_SIGNS.charAt(draw.nextInt(ACT_SIGNS.length())) : near(33, 126);
                due("say(" + sign + ")", x.say(sign), m.say(sign));
            }
            case 7 -> due("wipe()", x.wipe(), m.wipe());
            default -> due("done()", x.done(), m.done());
        }
        due("fault()", x.fault(), m.fault());
        if (m.fault() != Model.NONE && draw.nextInt(3) == 0 || draw.nextInt(9) == 0) {
            due("wipe()", x.wipe(), m.wipe());
        }
    }

    private void readings() {
        int what = near(0, 2);
        int a = near(0, 11);
        switch (draw.nextInt(4)) {
            case 0 -> due("judge(" + what + ")", x.judge(what), m.judge(what));
            case 1 -> due("behind(" + a + ", " + what + ")", x.behind(a, what), m.behind(a, what));
            case 2 -> due("ledger(" + what + ")", x.ledger(what), m.ledger(what));
            default -> due("owed()", x.owed(), m.owed());
        }
    }

    private void exchanges() {
        int what = near(0, 2);
        int a = near(0, 5);
        switch (draw.nextInt(6)) {
            case 0 -> due("home(" + what + ")", x.home(what), m.home(what));
            case 1, 2 -> due("bring(" + a + ", " + what + ")", x.bring(a, what), m.bring(a, what));
            case 3 -> due("lots()", x.lots(), m.lots());
            case 4 -> due("even()", x.even(), m.even());
            default -> due("fair(" + a + ")", x.fair(a), m.fair(a));
        }
    }

    private void sights() {
        int what = near(0, 1);
        switch (draw.nextInt(8)) {
            case 0, 1, 2 -> {
                int a = draw.nextInt(3) == 0 ? near(0, 63) : 1 << draw.nextInt(6);
                int b = draw.nextInt(3) == 0 ? near(0, 63) : 1 << draw.nextInt(6);
                boolean even = draw.nextInt(4) == 0;
                due("seen(" + a + ", " + b + ", " + even + ")", x.seen(a, b, even), m.seen(a, b, even));
            }
            case 3 -> due("forged(" + what + ")", x.forged(what), m.forged(what));
            case 4 -> {
                int a = near(0, 11);
                due("rank(" + a + ")", x.rank(a), m.rank(a));
            }
            case 5, 6 -> due("weigh(" + what + ")", x.weigh(what), m.weigh(what));
            default -> {
                if (draw.nextInt(3) == 0) {
                    due("forget()", x.forget(), m.forget());
                }
            }
        }
    }

    private void chances() {
        int what = near(0, 2);
        switch (draw.nextInt(3)) {
            case 0 -> {
                int t = near(0, 10);
                int k = near(-1, 9);
                int part = near(0, 1);
                due("broken(" + t + ", " + k + ", " + part + ")", x.broken(t, k, part), m.broken(t, k, part));
            }
            case 1 -> {
                int side = near(0, 1);
                int g = near(0, 99);
                int c = draw.nextBoolean() ? near(0, 99) : near(0, 20);
                due("rests(" + side + ", " + g + ", " + c + ", " + what + ")",
                        x.rests(side, g, c, what), m.rests(side, g, c, what));
            }
            default -> {
                int seed = near(0, 9999);
                int acts = near(1, 99);
                due("year(" + seed + ", " + acts + ", " + what + ")",
                        x.year(seed, acts, what), m.year(seed, acts, what));
            }
        }
    }

    private void imagesAndTold() {
        int k = near(0, 1);
        switch (draw.nextInt(4)) {
            case 0 -> due("image(" + k + ")", x.image(k), m.image(k));
            case 1 -> due("restore(" + k + ")", x.restore(k), m.restore(k));
            default -> {
                for (int what = -1; what < 54; what++) {
                    due("told(" + what + ")", x.told(what), m.told(what));
                }
            }
        }
    }
}
