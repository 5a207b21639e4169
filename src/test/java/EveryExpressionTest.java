import java.util.ArrayList;
import java.util.BitSet;
import java.util.List;

/**
 * Every expression of up to 7 steps over two names, none left out: its language is worked out from
 * the document's table as a plain set of words, and every answer about every log of up to 3 events
 * is read off that set.
 *
 * Words of up to 7 events are enough for that. Such an expression has at most 4 event pushes; a
 * shortest completion, with names barred or not, needs each push at most once, and one that has
 * just been used for the log's last event not again.
 */
public final class EveryExpressionTest {
    private static final int DEFAULT_STEPS = 7;
    private static final int LONGEST_LOG = 3;
    private static final int LONGEST_WORD = 7;
    private static final int NAMES = 2;
    /** A word is a 1 followed by one bit for each event, so 1 is the empty word. */
    private static final int EMPTY = 1;
    private static final int WORDS = 1 << (LONGEST_WORD + 1);
    /** The two names that the events of the sets stand for, in turn; the first is always the lesser. */
    private static final int[][] PAIRS = {{0, 1}, {0, 2}, {0, 3}, {1, 2}, {1, 3}, {2, 3}};

    private static final int[][] WAYS_TO_PART = new int[WORDS][];

    private static long expressions = 0;
    private static long checks = 0;
    private static int wrong = 0;

    private record Made(String calls, BitSet words) { }

    private static int lengthOf(int word) {
        return 31 - Integer.numberOfLeadingZeros(word);
    }

    private static int joined(int first, int second) {
        int length = lengthOf(second);
        return first << length | (second ^ 1 << length);
    }

    private static boolean fits(int first, int second) {
        return lengthOf(first) + lengthOf(second) <= LONGEST_WORD;
    }

    /** For each group of places: the word at the places of the group, then the word at the others. */
    private static int[] waysToPart(int word) {
        int length = lengthOf(word);
        int[] ways = new int[2 << length];
        for (int group = 0; group < 1 << length; group++) {
            int inside = EMPTY;
            int outside = EMPTY;
            for (int place = length - 1; place >= 0; place--) {
                int event = word >> place & 1;
                if ((group >> place & 1) == 1) {
                    inside = inside << 1 | event;
                } else {
                    outside = outside << 1 | event;
                }
            }
            ways[2 * group] = inside;
            ways[2 * group + 1] = outside;
        }
        return ways;
    }

    private static BitSet only(int word) {
        BitSet words = new BitSet(WORDS);
        words.set(word);
        return words;
    }

    private static BitSet seq(BitSet x, BitSet y) {
        BitSet words = new BitSet(WORDS);
        for (int a = x.nextSetBit(0); a >= 0; a = x.nextSetBit(a + 1)) {
            for (int b = y.nextSetBit(0); b >= 0 && fits(a, b); b = y.nextSetBit(b + 1)) {
                words.set(joined(a, b));
            }
        }
        return words;
    }

    private static BitSet choice(BitSet x, BitSet y) {
        BitSet words = (BitSet) x.clone();
        words.or(y);
        return words;
    }

    private static BitSet both(BitSet x, BitSet y) {
        BitSet words = new BitSet(WORDS);
        for (int word = EMPTY; word < WORDS; word++) {
            int[] ways = WAYS_TO_PART[word];
            for (int w = 0; w < ways.length && !words.get(word); w += 2) {
                words.set(word, x.get(ways[w]) && y.get(ways[w + 1]));
            }
        }
        return words;
    }

    private static BitSet loop(BitSet x) {
        BitSet words = only(EMPTY);
        for (int times = 0; times < LONGEST_WORD; times++) {
            words.or(seq(words, x));
        }
        return words;
    }

    private static void leaves(List<Made> into) {
        into.add(new Made("s", only(EMPTY)));
        into.add(new Made("0", only(joined(EMPTY, 2))));
        into.add(new Made("1", only(joined(EMPTY, 3))));
    }

    private static void changed(List<Made> from, List<Made> into) {
        for (Made x : from) {
            into.add(new Made(x.calls + "*", loop(x.words)));
            into.add(new Made(x.calls + "?", choice(x.words, only(EMPTY))));
        }
    }

    private static void paired(List<Made> first, List<Made> second, List<Made> into) {
        for (Made x : first) {
            for (Made y : second) {
                into.add(new Made(x.calls + y.calls + ".", seq(x.words, y.words)));
                into.add(new Made(x.calls + y.calls + "|", choice(x.words, y.words)));
                into.add(new Made(x.calls + y.calls + "&", both(x.words, y.words)));
            }
        }
    }

    private static List<Made> ofSteps(int steps, List<List<Made>> shorter) {
        List<Made> all = new ArrayList<>();
        if (steps == 1) {
            leaves(all);
            return all;
        }
        changed(shorter.get(steps - 1), all);
        for (int first = 1; first < steps - 1; first++) {
            paired(shorter.get(first), shorter.get(steps - 1 - first), all);
        }
        return all;
    }

    private final Made made;
    private final int[] names;
    private final ProcessLog p = new ProcessLog();
    private String told = "";

    private EveryExpressionTest(Made made, int[] names) {
        this.made = made;
        this.names = names;
    }

    private void due(String call, int got, int want) {
        checks++;
        if (got != want) {
            wrong++;
            System.out.println(made.calls + " over " + names[0] + " and " + names[1] + ", log [" + told + "]: "
                + call + " answered " + got + ", due is " + want);
        }
    }

    private int build(char call) {
        return switch (call) {
            case 's' -> p.skip();
            case '.' -> p.seq();
            case '|' -> p.choice();
            case '&' -> p.both();
            case '*' -> p.loop();
            case '?' -> p.option();
            default -> p.event(names[call - '0']);
        };
    }

    private void check() {
        for (char call : made.calls.toCharArray()) {
            build(call);
        }
        due("steps()", p.steps(), made.calls.length());
        due("depth()", p.depth(), 1);
        due("define()", p.define(), 0);
        checkFrom(EMPTY);
    }

    private boolean isBeginning(int log) {
        return leastCompletion(log, 0, -1) >= 0;
    }

    /** The length of a shortest completion without barred events that begins with a name, or -4. */
    private int leastCompletion(int log, int barred, int beginning) {
        int room = LONGEST_WORD - lengthOf(log);
        for (int rest = EMPTY; rest < 2 << room; rest++) {
            if (made.words.get(joined(log, rest)) && (namesIn(rest) & barred) == 0
                && (beginning < 0 || begins(rest, beginning))) {
                return lengthOf(rest);
            }
        }
        return -4;
    }

    private static boolean begins(int word, int k) {
        return word != EMPTY && (word >> (lengthOf(word) - 1) & 1) == k;
    }

    private static int namesIn(int word) {
        int set = 0;
        for (int place = 0; place < lengthOf(word); place++) {
            set |= 1 << (word >> place & 1);
        }
        return set;
    }

    private int spread(int set) {
        return (set & 1) << names[0] | (set >> 1) << names[1];
    }

    private void checkFrom(int log) {
        ask(log);
        for (int k = 0; k < NAMES && lengthOf(log) < LONGEST_LOG; k++) {
            int longer = joined(log, 2 | k);
            boolean fitting = isBeginning(longer);
            due("feed(" + names[k] + ")", p.feed(names[k]), fitting ? lengthOf(longer) : -4);
            if (fitting) {
                String before = told;
                told += names[k];
                checkFrom(longer);
                told = before;
                due("undo()", p.undo(), names[k]);
            }
        }
    }

    private void ask(int log) {
        int next = 0;
        int needed = 0;
        int advice = -4;
        int least = leastCompletion(log, 0, -1);
        for (int k = NAMES - 1; k >= 0; k--) {
            int leastWithK = leastCompletion(log, 0, k);
            next |= leastWithK >= 0 ? 1 << k : 0;
            needed |= leastCompletion(log, 1 << k, -1) < 0 ? 1 << k : 0;
            advice = leastWithK == least && least > 0 ? names[k] : advice;
        }
        due("mayStop()", p.mayStop() ? 1 : 0, made.words.get(log) ? 1 : 0);
        due("next()", p.next(), spread(next));
        due("needed()", p.needed(), spread(needed));
        due("advice()", p.advice(), advice);
        for (int barred = 0; barred < 1 << NAMES; barred++) {
            int set = spread(barred);
            due("remaining(" + set + ")", p.remaining(set), leastCompletion(log, barred, -1));
        }
    }

    public static void main(String[] args) {
        int mostSteps = args.length == 0 ? DEFAULT_STEPS : Integer.parseInt(args[0]);
        for (int word = EMPTY; word < WORDS; word++) {
            WAYS_TO_PART[word] = waysToPart(word);
        }
        List<List<Made>> bySteps = new ArrayList<>();
        bySteps.add(List.of());
        for (int steps = 1; steps <= mostSteps && wrong == 0; steps++) {
            List<Made> all = ofSteps(steps, bySteps);
            bySteps.add(all);
            for (Made made : all) {
                int[] names = PAIRS[(int) (expressions % PAIRS.length)];
                expressions++;
                new EveryExpressionTest(made, names).check();
            }
        }
        System.out.println(expressions + " expressions, " + checks + " checks, " + wrong + " wrong");
        if (wrong != 0) {
            System.exit(1);
        }
    }
}
