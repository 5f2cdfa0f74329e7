import java.util.ArrayList;
import java.util.List;
import java.util.Map;
import java.util.TreeMap;

/** What the edge tests share: checks that each belong to a sentence, quoted from the document. */
final class Edges {
    static final int UNKNOWN = -1, OUTSIDE = -2, STATE = -3, FULL = -4, NO = -5, NONE = -6;
    static final long GONE_OUTSIDE = -1000000000000000002L;
    static final String LETTERS = "ABCDEFabcdef";
    static final int HELD = 0, WALKS = 1, AT_HOME = 2, FREE = 3, BROKEN = 4;

    /** The quotes that have a test, by the section of the document that they stand in. */
    static final Map<String, List<String>> QUOTES = new TreeMap<>();
    static int wrong = 0;
    static int checks = 0;
    private static String place = "";

    private Edges() {
    }

    /** Runs the test of a sentence; one that checks nothing is wrong. */
    static void sentence(String section, String quote, Runnable test) {
        QUOTES.computeIfAbsent(section, s -> new ArrayList<>()).add(quote);
        place = section + ", \"" + quote + "\"";
        int before = checks;
        test.run();
        if (checks == before) {
            wrong++;
            System.out.println(place + ": nothing was checked");
        }
    }

    static void due(String call, long got, long want) {
        checks++;
        if (got != want) {
            wrong++;
            System.out.println(place + ": " + call + " answered " + got + ", due is " + want);
        }
    }

    static void same(String call, String got, String want) {
        checks++;
        if (!got.equals(want)) {
            wrong++;
            System.out.println(place + ": behind " + call + " it is\n  " + got + "\nand not\n  " + want);
        }
    }

    /**
     * Numbers outside least to most: those beside it, far ones, and those that come to lie within
     * if only their last 5, 6, 8 or 16 bits count, or all but the highest.
     */
    static int[] outside(int least, int most) {
        int[] tried = {least - 1, most + 1, least + 32, most + 32, least - 32, least + 64, most - 64, least + 256,
            most + 65536, least ^ Integer.MIN_VALUE, most ^ Integer.MIN_VALUE, ~least, ~most, 1000000000,
            Integer.MIN_VALUE, Integer.MIN_VALUE + 1, Integer.MAX_VALUE - 1, Integer.MAX_VALUE};
        return java.util.Arrays.stream(tried).filter(n -> n < least || n > most).distinct().toArray();
    }

    /** Officers by ranks told as digits, ours and theirs; a dot: nobody. */
    static ParoleLedger with(String ours, String theirs) {
        ParoleLedger x = new ParoleLedger();
        enter(x, ours, 0);
        enter(x, theirs, 6);
        return x;
    }

    private static void enter(ParoleLedger x, String ranks, int from) {
        for (int i = 0; i < ranks.length(); i++) {
            if (ranks.charAt(i) != '.') {
                x.officer(from + i, ranks.charAt(i) - '0');
            }
        }
    }

    /** Rates of the ranks 0, 1 .. as far as they are told. */
    static ParoleLedger rated(ParoleLedger x, int... rates) {
        for (int rank = 0; rank < rates.length; rank++) {
            x.rate(rank, rates[rank]);
        }
        return x;
    }

    /** Wipes the pad and says a text. */
    static ParoleLedger write(ParoleLedger x, String text) {
        x.wipe();
        for (char sign : text.toCharArray()) {
            x.say(sign);
        }
        return x;
    }

    /** Writes a text and has it done. */
    static ParoleLedger act(ParoleLedger x, String text) {
        write(x, text);
        due("whether done() of " + text + " is no refusal", x.done() >= 0 ? 1 : 0, 1);
        return x;
    }

    /** Acts by which one who is held comes to be so; other is one of the other side, as good as he. */
    static String into(int state, char letter, char other) {
        boolean ours = letter < 'a';
        String exchange = ours ? "(" + letter + ":" + other + ")" : "(" + other + ":" + letter + ")";
        String walks = letter + "s";
        return switch (state) {
            case HELD -> "";
            case WALKS -> walks;
            case AT_HOME -> walks + letter + "h";
            case FREE -> exchange;
            default -> walks + letter + "b";
        };
    }

    /** Judges a text: the first act that can not be, and why (NONE, NONE: all can be). */
    static void judged(ParoleLedger x, String text, int act, int why) {
        write(x, text);
        due("judge(0) of " + text, x.judge(0), act);
        due("judge(1) of " + text, x.judge(1), why);
    }

    static void fault(String text, int want) {
        due("fault() of " + text, write(new ParoleLedger(), text).fault(), want);
    }

    /** All that can be read of an object, in some 80 calls. */
    static String all(ParoleLedger x) {
        StringBuilder s = new StringBuilder();
        for (int what = 0; what < 52; what++) {
            if (what < 4 || what >= 10 && what < 16 || what >= 20 && what < 32 || what >= 40) {
                s.append(x.told(what)).append(' ');
            }
        }
        s.append("fault ").append(x.fault()).append(" owed ").append(x.owed()).append(" lots ").append(x.lots());
        for (int officer = 0; officer < 12; officer++) {
            s.append(" rank ").append(x.rank(officer));
        }
        for (int what = 0; what < 3; what++) {
            s.append(" judge ").append(x.judge(what)).append(" ledger ").append(x.ledger(what));
            s.append(" home ").append(x.home(what)).append(" forged ").append(x.forged(what));
            s.append(" year ").append(x.year(1234, 99, what)).append(" rests ").append(x.rests(what, 6, 3, 0));
        }
        return s.append(" broken ").append(x.broken(3, -1, 0)).append(" weigh ").append(x.weigh(0)).toString();
    }
}
