import java.util.ArrayDeque;
import java.util.ArrayList;
import java.util.Deque;
import java.util.HashMap;
import java.util.List;
import java.util.Map;

/**
 * Holds the answers about small processes against the document's own words: a word is tried against
 * the definition of each expression, and completions are found by trying all of them in turn.
 *
 * A shortest completion, with names barred or not, uses each event push at most once, since no loop
 * need be begun anew for it; so completions up to the number of pushes are all that are tried.
 */
public final class DefinitionTest {
    private static final int PUSHES = 4;
    private static final int LONGEST_LOG = 3;
    private static final int PROCESSES = 600;

    private static long seed = 20261115L;
    private static int checks = 0;
    private static int wrong = 0;

    private static final class Expression {
        final char kind;
        final Expression x;
        final Expression y;
        final Map<String, Boolean> known = new HashMap<>();

        Expression(char kind, Expression x, Expression y) {
            this.kind = kind;
            this.x = x;
            this.y = y;
        }

        boolean has(String word) {
            Boolean answer = known.get(word);
            if (answer == null) {
                answer = tryOut(word);
                known.put(word, answer);
            }
            return answer;
        }

        private boolean tryOut(String w) {
            switch (kind) {
                case 's': return w.isEmpty();
                case '.': return parted(w, 0, x, y);
                case '|': return x.has(w) || y.has(w);
                case '&': return interleaved(w);
                case '*': return w.isEmpty() || parted(w, 1, x, this);
                case '?': return w.isEmpty() || x.has(w);
                default: return w.equals(String.valueOf(kind));
            }
        }

        private static boolean parted(String w, int shortestFirst, Expression first, Expression second) {
            for (int cut = shortestFirst; cut <= w.length(); cut++) {
                if (first.has(w.substring(0, cut)) && second.has(w.substring(cut))) {
                    return true;
                }
            }
            return false;
        }

        private boolean interleaved(String w) {
            for (int group = 0; group < 1 << w.length(); group++) {
                StringBuilder first = new StringBuilder();
                StringBuilder second = new StringBuilder();
                for (int i = 0; i < w.length(); i++) {
                    ((group >> i & 1) == 1 ? first : second).append(w.charAt(i));
                }
                if (x.has(first.toString()) && y.has(second.toString())) {
                    return true;
                }
            }
            return false;
        }
    }

    private static int draw(int bound) {
        seed = seed * 6364136223846793005L + 1442695040888963407L;
        return (int) ((seed >>> 33) % bound);
    }

    private static void due(String where, int got, int want) {
        checks++;
        if (got != want && wrong++ < 50) {
            System.out.println(where + " answered " + got + ", due is " + want);
        }
    }

    /** A postfix text of at most 16 steps that leaves one expression. */
    private static String drawPostfix() {
        StringBuilder text = new StringBuilder();
        int depth = 0;
        int pushes = 0;
        int wanted = 1 + draw(PUSHES);
        while (pushes < wanted || depth > 1) {
            int room = 16 - text.length() - depth - 2 * (wanted - pushes);
            int pick = draw(10);
            if (pick < 4 && pushes < wanted) {
                text.append(draw(4));
                pushes++;
                depth++;
            } else if (pick == 4 && room >= 2) {
                text.append('s');
                depth++;
            } else if (pick >= 5 && pick < 8 && depth > 1) {
                text.append(".|&".charAt(pick - 5));
                depth--;
            } else if (pick >= 8 && depth > 0 && room >= 1) {
                text.append("*?".charAt(pick - 8));
            }
        }
        if (text.length() < 16 && draw(2) == 0) {
            text.append("*?".charAt(draw(2)));
        }
        return text.toString();
    }

    private static Expression parse(String postfix) {
        Deque<Expression> stack = new ArrayDeque<>();
        for (char c : postfix.toCharArray()) {
            Expression y = ".|&".indexOf(c) >= 0 ? stack.pop() : null;
            Expression x = ".|&*?".indexOf(c) >= 0 ? stack.pop() : null;
            stack.push(new Expression(c, x, y));
        }
        return stack.pop();
    }

    private static ProcessLog build(String postfix) {
        ProcessLog p = new ProcessLog();
        for (char c : postfix.toCharArray()) {
            switch (c) {
                case 's': p.skip(); break;
                case '.': p.seq(); break;
                case '|': p.choice(); break;
                case '&': p.both(); break;
                case '*': p.loop(); break;
                case '?': p.option(); break;
                default: p.event(c - '0');
            }
        }
        due(postfix + " define", p.define(), 0);
        return p;
    }

    /** All words up to the number of pushes over the names of the text, shorter ones first. */
    private static List<String> wordsOver(String postfix) {
        int longest = postfix.replaceAll("[^0-3]", "").length();
        List<String> words = new ArrayList<>();
        words.add("");
        for (int i = 0; i < words.size(); i++) {
            for (char k = '0'; k <= '3' && words.get(i).length() < longest; k++) {
                if (postfix.indexOf(k) >= 0) {
                    words.add(words.get(i) + k);
                }
            }
        }
        return words;
    }

    private static int namesIn(String word) {
        int names = 0;
        for (char c : word.toCharArray()) {
            names |= 1 << (c - '0');
        }
        return names;
    }

    private static List<String> completions(Expression e, String log, List<String> words) {
        List<String> found = new ArrayList<>();
        for (String z : words) {
            if (e.has(log + z)) {
                found.add(z);
            }
        }
        return found;
    }

    private static boolean isBeginning(Expression e, String log, List<String> words) {
        for (String z : words) {
            if (e.has(log + z)) {
                return true;
            }
        }
        return false;
    }

    private static void checkRemaining(String where, ProcessLog p, List<String> completions) {
        for (int barred = 0; barred < 16; barred++) {
            int want = ProcessLog.NONE;
            for (String z : completions) {
                if ((namesIn(z) & barred) == 0) {
                    want = z.length();
                    break;
                }
            }
            due(where + " remaining(" + barred + ")", p.remaining(barred), want);
        }
    }

    private static void checkLog(String postfix, Expression e, ProcessLog p, String log, List<String> words) {
        String where = postfix + " after '" + log + "'";
        List<String> completions = completions(e, log, words);
        String shortest = completions.get(0);
        due(where + " mayStop", p.mayStop() ? 1 : 0, e.has(log) ? 1 : 0);
        checkRemaining(where, p, completions);
        // Words of one length stand in the order of their names, so the first has the least name.
        due(where + " advice", p.advice(), shortest.isEmpty() ? ProcessLog.NONE : shortest.charAt(0) - '0');
        int needed = 15;
        for (String z : completions) {
            needed &= namesIn(z);
        }
        due(where + " needed", p.needed(), needed);
        int next = 0;
        for (int k = 0; k < 4; k++) {
            if (isBeginning(e, log + k, words)) {
                next |= 1 << k;
            }
        }
        due(where + " next", p.next(), next);
        for (int k = 0; k < 4; k++) {
            boolean fits = (next >> k & 1) == 1;
            due(where + " feed(" + k + ")", p.feed(k), fits ? log.length() + 1 : ProcessLog.NONE);
            if (fits && log.length() < LONGEST_LOG) {
                checkLog(postfix, e, p, log + k, words);
            }
            if (fits) {
                due(where + " undo", p.undo(), k);
            }
        }
    }

    public static void main(String[] args) {
        for (int n = 0; n < PROCESSES; n++) {
            String postfix = drawPostfix();
            List<String> words = wordsOver(postfix);
            checkLog(postfix, parse(postfix), build(postfix), "", words);
        }
        System.out.println(checks + " checks, " + wrong + " wrong");
        if (wrong != 0) {
            System.exit(1);
        }
    }
}
