import java.util.ArrayList;
import java.util.HashSet;
import java.util.List;
import java.util.Set;

/**
 * Drawn runs of up to 512 calls, right and wrong ones, each answer held against a model that keeps
 * expressions as terms and finds what may follow an event by rewriting them, without any machine.
 */
public final class RandomRunsTest {
    private static final int RUNS = 4000;
    private static final int CALLS = 512;
    private static final int[] ODD_ARGS = {-1, 4, 7, 16, -5, 256, Integer.MAX_VALUE, Integer.MIN_VALUE};

    private static long seed = 77L;
    private static long checks = 0;
    private static int wrong = 0;

    private static int draw(int bound) {
        seed = seed * 6364136223846793005L + 1442695040888963407L;
        return (int) ((seed >>> 33) % bound);
    }

    private record Term(char kind, Term x, Term y) {
        static final Term SKIP = new Term('s', null, null);

        boolean mayEnd() {
            return switch (kind) {
                case 's', '*', '?' -> true;
                case '.', '&' -> x.mayEnd() && y.mayEnd();
                case '|' -> x.mayEnd() || y.mayEnd();
                default -> false;
            };
        }

        /** What may be left of a word of this term once its first event, k, is taken off. */
        Set<Term> after(char k) {
            Set<Term> left = new HashSet<>();
            switch (kind) {
                case 's': break;
                case '.':
                    x.after(k).forEach(t -> left.add(joined('.', t, y)));
                    if (x.mayEnd()) {
                        left.addAll(y.after(k));
                    }
                    break;
                case '|':
                    left.addAll(x.after(k));
                    left.addAll(y.after(k));
                    break;
                case '&':
                    x.after(k).forEach(t -> left.add(joined('&', t, y)));
                    y.after(k).forEach(t -> left.add(joined('&', x, t)));
                    break;
                case '*':
                    x.after(k).forEach(t -> left.add(joined('.', t, this)));
                    break;
                case '?':
                    left.addAll(x.after(k));
                    break;
                default:
                    if (kind == k) {
                        left.add(SKIP);
                    }
            }
            return left;
        }

        private static Term joined(char kind, Term x, Term y) {
            if (x.equals(SKIP)) {
                return y;
            }
            return y.equals(SKIP) ? x : new Term(kind, x, y);
        }
    }

    private static final class Model {
        final List<Term> stack = new ArrayList<>();
        final List<Integer> log = new ArrayList<>();
        int steps = 0;
        int events = 0;
        Term process = Term.SKIP;

        int push(char c) {
            if (c != 's' && (c < '0' || c > '3')) {
                return -1;
            }
            if (steps == 16 || stack.size() == 8 || (c != 's' && events == 6)) {
                return -2;
            }
            events += c == 's' ? 0 : 1;
            steps++;
            stack.add(new Term(c, null, null));
            return stack.size();
        }

        int join(char c) {
            int taken = c == '*' || c == '?' ? 1 : 2;
            if (steps == 16) {
                return -2;
            }
            if (stack.size() < taken) {
                return -3;
            }
            Term y = taken == 2 ? stack.remove(stack.size() - 1) : null;
            Term x = stack.remove(stack.size() - 1);
            stack.add(new Term(c, x, y));
            steps++;
            return stack.size();
        }

        void discard() {
            stack.clear();
            steps = 0;
            events = 0;
        }

        int define() {
            if (stack.size() != 1) {
                return -3;
            }
            process = stack.get(0);
            discard();
            log.clear();
            return 0;
        }

        Set<Term> left() {
            Set<Term> terms = Set.of(process);
            for (int k : log) {
                terms = after(terms, k);
            }
            return terms;
        }

        static Set<Term> after(Set<Term> terms, int k) {
            Set<Term> next = new HashSet<>();
            terms.forEach(t -> next.addAll(t.after((char) ('0' + k))));
            return next;
        }

        int feed(int k) {
            if (k < 0 || k > 3) {
                return -1;
            }
            if (log.size() == 7) {
                return -2;
            }
            if (after(left(), k).isEmpty()) {
                return -4;
            }
            log.add(k);
            return log.size();
        }

        int undo() {
            return log.isEmpty() ? -4 : log.remove(log.size() - 1);
        }

        int at(int i) {
            return i >= 0 && i < log.size() ? log.get(i) : -4;
        }

        int next() {
            int names = 0;
            for (int k = 0; k < 4; k++) {
                names += after(left(), k).isEmpty() ? 0 : 1 << k;
            }
            return names;
        }

        static int least(Set<Term> from, int barred) {
            Set<Term> seen = new HashSet<>(from);
            Set<Term> edge = from;
            for (int count = 0; !edge.isEmpty(); count++) {
                if (edge.stream().anyMatch(Term::mayEnd)) {
                    return count;
                }
                Set<Term> next = new HashSet<>();
                for (int k = 0; k < 4; k++) {
                    if ((barred >> k & 1) == 0) {
                        next.addAll(after(edge, k));
                    }
                }
                next.removeAll(seen);
                seen.addAll(next);
                edge = next;
            }
            return -4;
        }

        int remaining(int barred) {
            return barred < 0 || barred > 15 ? -1 : least(left(), barred);
        }

        int advice() {
            int all = least(left(), 0);
            for (int k = 0; k < 4 && all > 0; k++) {
                if (least(after(left(), k), 0) == all - 1) {
                    return k;
                }
            }
            return -4;
        }

        int needed() {
            int names = 0;
            for (int k = 0; k < 4; k++) {
                names += least(left(), 1 << k) == -4 ? 1 << k : 0;
            }
            return names;
        }

        int mayStop() {
            return left().stream().anyMatch(Term::mayEnd) ? 1 : 0;
        }
    }

    private final ProcessLog p = new ProcessLog();
    private final Model m = new Model();
    private final StringBuilder told = new StringBuilder();
    private boolean sound = true;
    private int calls = 0;

    private void due(String call, int got, int want) {
        checks++;
        calls++;
        told.append(call).append(" -> ").append(got).append("; ");
        if (got != want) {
            sound = false;
            System.out.println("due is " + want + " in the last of: " + told);
        }
    }

    private static int drawArg(int usualBound) {
        return draw(12) == 0 ? ODD_ARGS[draw(ODD_ARGS.length)] : draw(usualBound);
    }

    /** Mostly an event that may come next, so that logs grow long. */
    private int drawFitting() {
        int names = m.next();
        int k = draw(4);
        for (int tries = 0; tries < 8 && (names >> k & 1) == 0; tries++) {
            k = draw(4);
        }
        return k;
    }

    private void buildCall(int pick) {
        if (pick < 5) {
            int k = drawArg(4);
            due("event(" + k + ")", p.event(k), k < 0 || k > 3 ? -1 : m.push((char) ('0' + k)));
        } else if (pick == 5) {
            due("skip()", p.skip(), m.push('s'));
        } else if (pick < 8) {
            due("seq()", p.seq(), m.join('.'));
        } else if (pick < 10) {
            due("choice()", p.choice(), m.join('|'));
        } else if (pick < 13) {
            due("both()", p.both(), m.join('&'));
        } else if (pick < 15) {
            due("loop()", p.loop(), m.join('*'));
        } else if (pick == 15) {
            due("option()", p.option(), m.join('?'));
        } else if (pick == 16 && draw(6) == 0) {
            p.discard();
            m.discard();
            told.append("discard(); ");
        } else {
            due("define()", p.define(), m.define());
        }
    }

    private void logCall(int pick) {
        if (pick < 8) {
            int k = draw(3) == 0 ? drawArg(4) : drawFitting();
            due("feed(" + k + ")", p.feed(k), m.feed(k));
        } else if (pick == 8) {
            due("undo()", p.undo(), m.undo());
        } else if (pick == 9 && draw(4) == 0) {
            p.restart();
            m.log.clear();
            told.append("restart(); ");
        } else {
            askAll();
        }
    }

    private void askAll() {
        int barred = drawArg(16);
        int i = drawArg(8);
        due("remaining(" + barred + ")", p.remaining(barred), m.remaining(barred));
        due("at(" + i + ")", p.at(i), m.at(i));
        due("remaining(0)", p.remaining(0), m.remaining(0));
        due("next()", p.next(), m.next());
        due("advice()", p.advice(), m.advice());
        due("needed()", p.needed(), m.needed());
        due("mayStop()", p.mayStop() ? 1 : 0, m.mayStop());
        due("steps()", p.steps(), m.steps);
        due("depth()", p.depth(), m.stack.size());
        due("length()", p.length(), m.log.size());
    }

    /** Builds on as long as steps are left for the joins that make one expression of the stack. */
    private void buildWhole() {
        int wanted = 6 + draw(11);
        while (m.stack.size() != 1 || m.steps < wanted) {
            boolean mustJoin = m.steps + m.stack.size() > 15;
            if (mustJoin && m.stack.size() < 2) {
                break;
            }
            buildCall(mustJoin ? 6 + draw(7) : draw(16));
        }
        due("define()", p.define(), m.define());
    }

    private void run() {
        while (sound && calls < CALLS - 250) {
            if (draw(4) > 0) {
                p.discard();
                m.discard();
                told.append("discard(); ");
                buildWhole();
            } else {
                for (int n = draw(40); n > 0 && sound; n--) {
                    buildCall(draw(18));
                }
            }
            for (int n = 20; n > 0 && sound; n--) {
                logCall(draw(14));
            }
        }
        wrong += sound ? 0 : 1;
    }

    public static void main(String[] args) {
        for (int n = 0; n < RUNS && wrong < 5; n++) {
            new RandomRunsTest().run();
        }
        System.out.println(checks + " checks, " + wrong + " runs wrong");
        if (wrong != 0) {
            System.exit(1);
        }
    }
}
