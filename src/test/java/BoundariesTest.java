import java.util.function.ToIntFunction;

/**
 * The sentences of the document that name a boundary case, in the document's order, each quoted and
 * with a test of its own.
 *
 * A run of calls is written with one letter for each: 0 to 3 event, s skip, . seq, | choice,
 * & both, * loop, ? option, = define, ~ discard, A to D feed of 0 to 3, < undo, ^ restart.
 */
public final class BoundariesTest {
    private static final int BAD_ARG = -1;
    private static final int FULL = -2;
    private static final int BAD_STACK = -3;
    private static final int NONE = -4;

    private static final int MIN = Integer.MIN_VALUE;
    private static final int MAX = Integer.MAX_VALUE;
    private static final int[] NO_NAMES = {-1, 4, -4, 5, 7, 8, 256, 65536, MIN, MIN + 1, MAX};
    private static final int[] NO_SETS = {-1, 16, -16, 17, 31, 256, 65536, MIN, MIN + 1, MAX};
    private static final int MOST_CALLS = 512;

    // Runs that reach a limit, and runs that are one step short of it.
    private static final String STEPS_16 = "0???????????????";
    private static final String STEPS_16_NO_EMPTY_WORD = "0?????????????1.";
    private static final String STEPS_16_ON_TWO = "01??????????????";
    private static final String STEPS_15 = "0??????????????";
    private static final String DEPTH_8 = "s0s1ss2s";
    private static final String DEPTH_7 = "s0s1ss2";
    private static final String EVENTS_6 = "01.2|3&0.1|";
    private static final String EVENTS_5 = "01.2|3&0.";
    private static final String ALL_LIMITS = "012301ss????????";
    // A full log that may go on, over a process that tells the names apart.
    private static final String FULL_LOG = "0*12.&3.=AABAAAA";

    private static final ToIntFunction<ProcessLog> EVENT = p -> p.event(2);
    private static final ToIntFunction<ProcessLog> SKIP = ProcessLog::skip;
    private static final ToIntFunction<ProcessLog> SEQ = ProcessLog::seq;
    private static final ToIntFunction<ProcessLog> CHOICE = ProcessLog::choice;
    private static final ToIntFunction<ProcessLog> BOTH = ProcessLog::both;
    private static final ToIntFunction<ProcessLog> LOOP = ProcessLog::loop;
    private static final ToIntFunction<ProcessLog> OPTION = ProcessLog::option;
    private static final ToIntFunction<ProcessLog> DEFINE = ProcessLog::define;
    private static final ToIntFunction<ProcessLog> UNDO = ProcessLog::undo;
    private static final ToIntFunction<ProcessLog> MAY_STOP = p -> p.mayStop() ? 1 : 0;

    /** What may still be done after a call, so that a change nobody shows at once is seen as well. */
    private static final String[] LATER = {
        "<<<<<<<<", "ABCDABCD", "^ABCDA", "0123012", "ssssssss", "????????", "=ABCD<<<",
        "........=ABCDABCD<<", "||||||||=ABCD<<", "&&&&&&&&=ABCDABCD<<", "*=ABCDABCD<", "1.=ABCDABCD<",
        "~0123012", "~01.2.=ABCD", "~ssssssssss",
    };

    private static String sentence = "";
    private static int sentences = 0;
    private static int checks = 0;
    private static int wrong = 0;

    private static void says(String text) {
        sentence = text;
        sentences++;
    }

    private static void due(String call, Object got, Object want) {
        checks++;
        if (!got.equals(want)) {
            wrong++;
            System.out.println("\"" + sentence + "\": " + call + " answered " + got + ", due is " + want);
        }
    }

    private static int tell(ProcessLog p, char c) {
        switch (c) {
            case 's': return p.skip();
            case '.': return p.seq();
            case '|': return p.choice();
            case '&': return p.both();
            case '*': return p.loop();
            case '?': return p.option();
            case '=': return p.define();
            case '<': return p.undo();
            case '~': p.discard(); return 0;
            case '^': p.restart(); return 0;
            default: return c >= 'A' ? p.feed(c - 'A') : p.event(c - '0');
        }
    }

    /** A new object after a run of calls, each of which must be accepted. */
    private static ProcessLog after(String run) {
        ProcessLog p = new ProcessLog();
        for (int i = 0; i < run.length(); i++) {
            due(run + " accepted at " + i, tell(p, run.charAt(i)) >= 0, true);
        }
        return p;
    }

    private static String shownStack(ProcessLog p) {
        return "steps " + p.steps() + " depth " + p.depth();
    }

    private static String shownLog(ProcessLog p) {
        StringBuilder text = new StringBuilder("length " + p.length() + " at");
        for (int i = -1; i <= 8; i++) {
            text.append(' ').append(p.at(i));
        }
        text.append(" mayStop ").append(p.mayStop()).append(" next ").append(p.next()).append(" remaining");
        for (int barred = -1; barred <= 16; barred++) {
            text.append(' ').append(p.remaining(barred));
        }
        return text.append(" advice ").append(p.advice()).append(" needed ").append(p.needed()).toString();
    }

    private static String shown(ProcessLog p) {
        return shownStack(p) + " " + shownLog(p);
    }

    private static String told(ProcessLog p, String later) {
        StringBuilder text = new StringBuilder();
        for (int i = 0; i < later.length(); i++) {
            text.append(later.charAt(i)).append(tell(p, later.charAt(i))).append(' ').append(p.next());
            text.append(p.mayStop()).append(p.remaining(0)).append(' ').append(shownStack(p)).append("; ");
        }
        return text + shown(p);
    }

    /** After one run all calls show and do the same as after the other. */
    private static void alike(String run, String other) {
        due(run + ", then all", shown(after(run)), shown(after(other)));
        for (String later : LATER) {
            due(run + ", then " + later, told(after(run), later), told(after(other), later));
        }
    }

    private static void answers(String run, String call, ToIntFunction<ProcessLog> ask, int want) {
        due(run + " " + call, ask.applyAsInt(after(run)), want);
    }

    /** The call answers so, and all other calls show and do the same as if it had not been made. */
    private static void changesNothing(String run, String call, ToIntFunction<ProcessLog> ask, int want) {
        ProcessLog p = after(run);
        String before = shown(p);
        due(run + " " + call, ask.applyAsInt(p), want);
        due(run + " " + call + ", then all", shown(p), before);
        due(run + " " + call + " again", ask.applyAsInt(p), want);
        for (String later : LATER) {
            ProcessLog q = after(run);
            ask.applyAsInt(q);
            due(run + " " + call + ", then " + later, told(q, later), told(after(run), later));
        }
    }

    /** A refused call on the stack, with an empty log and with a full one. */
    private static void refused(String run, String call, ToIntFunction<ProcessLog> ask, int code) {
        changesNothing(run, call, ask, code);
        changesNothing(FULL_LOG + run, call, ask, code);
    }

    /** A refused call on the log, or one that only looks, with an empty stack and with expressions on it. */
    private static void keepsAll(String run, String call, ToIntFunction<ProcessLog> ask, int answer) {
        changesNothing(run, call, ask, answer);
        changesNothing(run + "01", call, ask, answer);
    }

    private static void keepsLog(String run, char call) {
        ProcessLog p = after(run);
        String before = shownLog(p);
        due(run + " " + call + " accepted", tell(p, call) >= 0, true);
        due(run + " " + call + ", then the log", shownLog(p), before);
    }

    private static void keepsStack(String run, char call) {
        ProcessLog p = after(run);
        String before = shownStack(p);
        due(run + " " + call + " accepted", tell(p, call) >= 0, true);
        due(run + " " + call + ", then the stack", shownStack(p), before);
        // A define makes the logs alike, so what is shown then comes from the stack alone.
        due(run + " " + call + ", then .=", shown(after(run + call + ".=")), shown(after(run + ".=")));
    }

    /** The words of the expression up to a length, each tried by a log of its own. */
    private static void words(String postfix, int longest, String... want) {
        StringBuilder got = new StringBuilder();
        for (int length = 0; length <= longest; length++) {
            for (int code = 0; code < 1 << (2 * length); code++) {
                StringBuilder word = new StringBuilder();
                for (int i = length - 1; i >= 0; i--) {
                    word.append((code >> (2 * i)) & 3);
                }
                got.append(isWord(postfix, word.toString()) ? "[" + word + "]" : "");
            }
        }
        StringBuilder all = new StringBuilder();
        for (String word : want) {
            all.append('[').append(word).append(']');
        }
        due("the words of " + postfix, got.toString(), all.toString());
    }

    private static boolean isWord(String postfix, String word) {
        ProcessLog p = after(postfix + "=");
        for (int i = 0; i < word.length(); i++) {
            if (p.feed(word.charAt(i) - '0') != i + 1) {
                return false;
            }
        }
        return p.mayStop();
    }

    private static void atMost512Calls() {
        says("An object is used for at most 512 calls after it has been made; what later calls answer is free.");
        ProcessLog p = new ProcessLog();
        int calls = 0;
        while (calls + 16 <= MOST_CALLS) {
            due("event, call " + calls, p.event(0), 1);
            due("loop", p.loop(), 1);
            due("event", p.event(1), 2);
            due("both", p.both(), 1);
            due("define", p.define(), 0);
            due("feed", p.feed(0), 1);
            due("feed", p.feed(1), 2);
            due("feed", p.feed(1), NONE);
            due("feed", p.feed(4), BAD_ARG);
            due("undo", p.undo(), 1);
            due("next", p.next(), 3);
            due("needed", p.needed(), 2);
            due("advice", p.advice(), 1);
            due("seq", p.seq(), BAD_STACK);
            due("length", p.length(), 1);
            due("remaining", p.remaining(2), NONE);
            calls += 16;
        }
        due("calls made", calls, MOST_CALLS);
        // Any answer will do from here on, but LANGUAGE.md lets no call throw.
        nothingThrows(p);
    }

    private static void termsOfWords() {
        says("The event names are 0, 1, 2, 3.");
        for (int k = 0; k <= 3; k++) {
            int name = k;
            answers("", "event(" + k + ")", p -> p.event(name), 1);
            answers("01|2|3|=", "feed(" + k + ")", p -> p.feed(name), 1);
        }
        answers("", "event(-1)", p -> p.event(-1), BAD_ARG);
        answers("", "event(4)", p -> p.event(4), BAD_ARG);
        says("the empty word has length 0");
        answers("s=", "length", ProcessLog::length, 0);
        answers("s=", "remaining(0)", p -> p.remaining(0), 0);
        says("event k: the one word that is k alone");
        words("0", 3, "0");
        words("1", 3, "1");
        words("2", 3, "2");
        words("3", 3, "3");
        says("skip: the empty word only");
        words("s", 3, "");
        says("seq X Y: every word of X followed by a word of Y");
        words("01.", 3, "01");
        words("s0.", 3, "0");
        words("0s.", 3, "0");
        words("ss.", 3, "");
        words("0?1?.", 3, "", "0", "1", "01");
        words("0*0.", 3, "0", "00", "000");
        says("choice X Y: every word of X and every word of Y");
        words("01|", 3, "0", "1");
        words("00|", 3, "0");
        words("s0|", 3, "", "0");
        words("0s|", 3, "", "0");
        words("ss|", 3, "");
        words("0*1*|", 2, "", "0", "1", "00", "11");
    }

    private static void termsOfBothAndLoop() {
        says("both X Y: every word w whose places can be parted into two groups");
        words("01&", 3, "01", "10");
        words("00&", 3, "00");
        words("01.2&", 4, "012", "021", "201");
        words("01.10.&", 4, "0101", "0110", "1001", "1010");
        says("(either group may have no place)");
        words("s0&", 3, "0");
        words("0s&", 3, "0");
        words("ss&", 3, "");
        words("0?1&", 3, "1", "01", "10");
        words("01?&", 3, "0", "01", "10");
        words("0?1?&", 3, "", "0", "1", "01", "10");
        words("0*12.&", 3, "12", "012", "102", "120");
        words("12.0*&", 3, "12", "012", "102", "120");
        says("loop X: every word made of zero or more words of X one after another");
        words("0*", 4, "", "0", "00", "000", "0000");
        words("01.*", 5, "", "01", "0101");
        words("s*", 3, "");
        words("0**", 2, "", "0", "00");
        words("0?*", 2, "", "0", "00");
        words("01&*", 4, "", "01", "10", "0101", "0110", "1001", "1010");
        words("012.|*", 3, "", "0", "00", "12", "000", "012", "120");
        words("1*0.*", 3, "", "0", "00", "10", "000", "010", "100", "110");
        due("seven words of 0 and more to come", after("0*=AAAAAAA").next(), 1);
        due("seven words of 0", after("0*=AAAAAAA").mayStop(), true);
        says("option X: the empty word and every word of X");
        words("0?", 3, "", "0");
        words("s?", 3, "");
        words("0??", 3, "", "0");
        words("01.?", 3, "", "01");
        words("0?1.", 3, "1", "01");
    }

    private static void termsOfLanguages() {
        says("So every language has at least one word.");
        String[] runs = {"", "s=", "0=", "s*=", "ss&=", "ss|*=", "012301.....=", "012301&&&&&=", "01.2.*=ABCAB"};
        int[] least = {0, 0, 1, 0, 0, 0, 6, 6, 1};
        for (int i = 0; i < runs.length; i++) {
            answers(runs[i], "remaining(0)", p -> p.remaining(0), least[i]);
        }
        says("Expressions are made on a stack in postfix order.");
        words("01.2|", 3, "2", "01");
        words("012.|", 3, "0", "12");
        words("012|.", 3, "01", "02");
    }

    private static void termsOfLogs() {
        says("the LOG is a word of at most 7 events");
        ProcessLog p = after("0*=AAAAAAA");
        due("feed of an eighth event", p.feed(0), FULL);
        due("length", p.length(), 7);
        says("that is at every moment the beginning of some word of the process");
        keepsAll("01.2|=", "feed(1)", q -> q.feed(1), NONE);
        keepsAll("01.2|=A", "feed(0)", q -> q.feed(0), NONE);
        keepsAll("01.2|=AB", "feed(2)", q -> q.feed(2), NONE);
        due("the log after another define", after("01.=A1=").length(), 0);
        says("(a word is a beginning of itself; the empty word is a beginning of every word)");
        answers("01.=A", "feed of the last event", q -> q.feed(1), 2);
        answers("01.=A", "next before the last event", ProcessLog::next, 2);
        answers("0=", "feed of the only event", q -> q.feed(0), 1);
        answers("0=", "next before the only event", ProcessLog::next, 1);
        answers("012..=", "length when the empty word is no word", ProcessLog::length, 0);
        answers("012..=", "mayStop when the empty word is no word", MAY_STOP, 0);
        answers("012..=A<", "length when undone to the empty word", ProcessLog::length, 0);
        says("A COMPLETION of the log is a word z (possibly empty)");
        answers("01.=AB", "remaining(15)", q -> q.remaining(15), 0);
        answers("01.=AB", "needed", ProcessLog::needed, 0);
        answers("01.?=", "remaining(15)", q -> q.remaining(15), 0);
        says("z may have any length");
        String longer = "0*12321....&=AAAAAAA";
        answers(longer, "remaining(0)", q -> q.remaining(0), 5);
        answers(longer, "needed", ProcessLog::needed, 14);
        answers(longer, "advice", ProcessLog::advice, 1);
        String way = "0*12323...|.=AAAAAAA";
        answers(way, "remaining(0)", q -> q.remaining(0), 1);
        answers(way, "remaining(2)", q -> q.remaining(2), 4);
        answers(way, "remaining(6)", q -> q.remaining(6), NONE);
        answers("01230.1....*=ABCDABA", "remaining(0)", q -> q.remaining(0), 5);
        answers("012301.....=", "remaining(0)", q -> q.remaining(0), 6);
    }

    private static void termsOfCalls() {
        says("No call ever throws.");
        String[] runs = {"", "0", "01", "0=", FULL_LOG, FULL_LOG + STEPS_16, FULL_LOG + DEPTH_8, FULL_LOG + ALL_LIMITS,
            "01&2&3&0&1&*=ABCDABA", "01&2&3&0&1&*"};
        for (String run : runs) {
            nothingThrows(after(run));
        }
        says("A refused call answers the code named and changes nothing.");
        refused(ALL_LIMITS, "event", EVENT, FULL);
        refused(ALL_LIMITS, "event(4)", p -> p.event(4), BAD_ARG);
        refused(ALL_LIMITS, "skip", SKIP, FULL);
        refused(ALL_LIMITS, "seq", SEQ, FULL);
        refused(ALL_LIMITS, "choice", CHOICE, FULL);
        refused(ALL_LIMITS, "both", BOTH, FULL);
        refused(ALL_LIMITS, "loop", LOOP, FULL);
        refused(ALL_LIMITS, "option", OPTION, FULL);
        refused(ALL_LIMITS, "define", DEFINE, BAD_STACK);
        keepsAll(FULL_LOG, "feed(4)", p -> p.feed(4), BAD_ARG);
        keepsAll(FULL_LOG, "feed(2)", p -> p.feed(2), FULL);
        keepsAll(FULL_LOG + "<<", "feed(3)", p -> p.feed(3), NONE);
        keepsAll("0*12.&3.=", "undo", UNDO, NONE);
        keepsAll(FULL_LOG, "at(7)", p -> p.at(7), NONE);
        keepsAll(FULL_LOG, "remaining(16)", p -> p.remaining(16), BAD_ARG);
        keepsAll(FULL_LOG, "remaining(4)", p -> p.remaining(4), NONE);
        keepsAll("0*=AA", "advice", ProcessLog::advice, NONE);
        says("BAD_ARG = -1, FULL = -2, BAD_STACK = -3, NONE = -4");
        due("BAD_ARG", ProcessLog.BAD_ARG, BAD_ARG);
        due("FULL", ProcessLog.FULL, FULL);
        due("BAD_STACK", ProcessLog.BAD_STACK, BAD_STACK);
        due("NONE", ProcessLog.NONE, NONE);
    }

    private static void nothingThrows(ProcessLog p) {
        try {
            for (int k : NO_NAMES) {
                p.event(k);
                p.feed(k);
                p.at(k);
                p.remaining(k);
            }
            shown(p);
            for (char c : "0s.|&*?=ABCD<^~".toCharArray()) {
                tell(p, c);
                tell(p, c);
                p.advice();
                p.needed();
            }
            shown(p);
            due("a call threw", false, false);
        } catch (RuntimeException | StackOverflowError e) {
            due("a call threw", e.toString(), false);
        }
    }

    private static void promise1() {
        says("The stack is empty, the process is the empty word only, the log is empty.");
        alike("", "s=");
        answers("", "depth", ProcessLog::depth, 0);
        answers("", "steps", ProcessLog::steps, 0);
        answers("", "length", ProcessLog::length, 0);
        answers("", "mayStop", MAY_STOP, 1);
        answers("", "next", ProcessLog::next, 0);
        answers("", "remaining(15)", p -> p.remaining(15), 0);
        answers("", "advice", ProcessLog::advice, NONE);
        answers("", "needed", ProcessLog::needed, 0);
        for (int k = 0; k <= 3; k++) {
            int name = k;
            keepsAll("", "feed(" + k + ")", p -> p.feed(name), NONE);
        }
        keepsAll("", "undo", UNDO, NONE);
        refused("", "define", DEFINE, BAD_STACK);
        refused("", "seq", SEQ, BAD_STACK);
        refused("", "loop", LOOP, BAD_STACK);
    }

    private static void promise2BadArg() {
        says("k not 0 to 3 answers BAD_ARG");
        for (int k : NO_NAMES) {
            refused("", "event(" + k + ")", p -> p.event(k), BAD_ARG);
            refused("01.=A01", "event(" + k + ")", p -> p.event(k), BAD_ARG);
        }
        answers("", "event(0)", p -> p.event(0), 1);
        answers("", "event(3)", p -> p.event(3), 1);
        says("Tested in this order: k not 0 to 3 answers BAD_ARG; steps() is 16 answers FULL; [...]");
        for (String run : new String[] {STEPS_16, DEPTH_8, EVENTS_6, ALL_LIMITS}) {
            refused(run, "event(4)", p -> p.event(4), BAD_ARG);
            refused(run, "event(-1)", p -> p.event(-1), BAD_ARG);
        }
    }

    private static void promise2Full() {
        says("steps() is 16 answers FULL");
        refused(STEPS_16, "event", EVENT, FULL);
        answers(STEPS_15, "event", EVENT, 2);
        says("the stack holds 8 expressions answers FULL");
        refused(DEPTH_8, "event", EVENT, FULL);
        refused("ssssssss", "event", EVENT, FULL);
        answers(DEPTH_7, "event", EVENT, 8);
        answers(DEPTH_8 + ".", "event", EVENT, 8);
        says("the expressions on the stack have 6 event pushes in all answers FULL");
        refused(EVENTS_6, "event", EVENT, FULL);
        refused("012301", "event", EVENT, FULL);
        refused("0s1s23..01", "event", EVENT, FULL);
        answers(EVENTS_5, "event", EVENT, 2);
        answers("01230", "event", EVENT, 6);
        says("(every accepted call of event since the stack was last emptied counts one)");
        answers("0?*s|s.11.*23", "event with five counted", EVENT, 5);
        refused("0?*s|11.*230", "event with six counted", EVENT, FULL);
        answers(EVENTS_6 + "=", "event after define", EVENT, 1);
        answers(EVENTS_6 + "=01230", "event after define and five", EVENT, 6);
        refused(EVENTS_6 + "=012301", "event after define and six", EVENT, FULL);
        answers("012301~01230", "event after discard and five", EVENT, 6);
        refused("012301~012301", "event after discard and six", EVENT, FULL);
        refused("0123~012301", "event after discard of four and six", EVENT, FULL);
        answers("012301~", "event after discard", EVENT, 1);
        answers("ssssss", "event after six skips", EVENT, 7);
        refusedEventsCountNothing();
        says("event: Otherwise answers the number of expressions on the stack afterwards.");
        answers("", "event", EVENT, 1);
        answers("0", "event", EVENT, 2);
        answers("01.", "event", EVENT, 2);
        answers("sssssss", "event", EVENT, 8);
        keepsLog(FULL_LOG, '3');
    }

    private static void refusedEventsCountNothing() {
        ProcessLog p = after("01230");
        for (int n = 0; n < 10; n++) {
            due("event(4)", p.event(4), BAD_ARG);
            due("define", p.define(), BAD_STACK);
        }
        due("event as the sixth", p.event(1), 6);
        due("event as the seventh", p.event(1), FULL);
        due("define of six", p.define(), BAD_STACK);
        due("event as the seventh after a refused define", p.event(1), FULL);
        ProcessLog q = after(DEPTH_8);
        for (int n = 0; n < 10; n++) {
            due("event on eight", q.event(1), FULL);
        }
        for (int n = 7; n >= 3; n--) {
            due("seq", q.seq(), n);
        }
        for (int n = 4; n <= 6; n++) {
            due("event " + n + " of six", q.event(1), n);
        }
    }

    private static void promise3() {
        says("skip: FULL if steps() is 16 or the stack holds 8 expressions.");
        refused(STEPS_16, "skip", SKIP, FULL);
        refused(DEPTH_8, "skip", SKIP, FULL);
        refused("ssssssss", "skip", SKIP, FULL);
        refused(ALL_LIMITS, "skip", SKIP, FULL);
        answers(STEPS_15, "skip", SKIP, 2);
        answers(DEPTH_7, "skip", SKIP, 8);
        answers("012301", "skip with six event pushes", SKIP, 7);
        answers(STEPS_16 + "~", "skip after discard", SKIP, 1);
        answers(STEPS_16 + "=", "skip after define", SKIP, 1);
        says("skip: Otherwise answers the number of expressions on the stack afterwards.");
        answers("", "skip", SKIP, 1);
        answers("0", "skip", SKIP, 2);
        answers("sssssss", "skip", SKIP, 8);
        keepsLog(FULL_LOG, 's');
    }

    private static void pairs(String name, char letter) {
        ToIntFunction<ProcessLog> join = p -> tell(p, letter);
        says(name + ": steps() is 16 answers FULL");
        refused(STEPS_16_ON_TWO, name, join, FULL);
        refused(ALL_LIMITS, name, join, FULL);
        answers("01?????????????", name + " as step 16", join, 1);
        says(name + ": fewer than two on the stack answers BAD_STACK");
        refused("", name, join, BAD_STACK);
        refused("0", name, join, BAD_STACK);
        refused(STEPS_15, name, join, BAD_STACK);
        refused("01~", name, join, BAD_STACK);
        refused("01.=", name, join, BAD_STACK);
        refused("01.", name, join, BAD_STACK);
        says(name + ": Tested in this order: steps() is 16 answers FULL; fewer than two [...] BAD_STACK.");
        refused(STEPS_16, name + " on one at 16 steps", join, FULL);
        says(name + ": Otherwise answers the number on the stack afterwards.");
        answers("01", name, join, 1);
        answers("012", name, join, 2);
        answers("ssssssss", name, join, 7);
        answers(DEPTH_8, name, join, 7);
        answers("012301", name, join, 5);
        keepsLog(FULL_LOG + "01", letter);
    }

    private static void promises4To6() {
        pairs("seq", '.');
        pairs("choice", '|');
        pairs("both", '&');
        says("Takes the top expression Y and the one below it X off the stack and pushes seq X Y.");
        words("01.", 3, "01");
        words("10.", 3, "10");
        words("201..", 4, "201");
        words("20.1.", 4, "201");
        words("01s..", 3, "01");
        says("As seq, but pushes choice X Y.");
        words("201|.", 3, "20", "21");
        words("201||", 2, "0", "1", "2");
        words("01.10.|", 3, "01", "10");
        says("As seq, but pushes both X Y.");
        words("201&.", 4, "201", "210");
        words("01.2&3.", 5, "0123", "0213", "2013");
        words("0*1*&", 2, "", "0", "1", "00", "01", "10", "11");
        keepsAll("012301&&&&&=BDAC", "feed(3)", p -> p.feed(3), NONE);
        String[] sixes = {"01&2&3&0&1&", "012301&&&&&", "01&23&&01&&", "01&2&3&0&1&s&", "s01&2&3&0&1&&",
            "0s.s.1&2&3&0&1&", "0ss..12301&&&&&", "01&2&3&0&1&s.s&", "s01&2&3&0&1&.s.", "ss&012301&&&&&&"};
        for (String six : sixes) {
            sixInAnyOrder(six);
        }
        answers("01&2&3&0&1&*=BDACABB", "remaining in the second round", p -> p.remaining(0), 5);
        answers("01&2&3&0&1&*=BDACABB", "next in the second round", ProcessLog::next, 15);
        answers("01&2&3&0&1&s|?=", "mayStop", MAY_STOP, 1);
    }

    /** The most event pushes, all interleaved: 0 0 1 1 2 3 in any order, however skips are joined to them. */
    private static void sixInAnyOrder(String postfix) {
        answers(postfix + "=", "remaining(0)", p -> p.remaining(0), 6);
        answers(postfix + "=", "needed", ProcessLog::needed, 15);
        answers(postfix + "=BDAC", "next", ProcessLog::next, 3);
        answers(postfix + "=BDAC", "remaining(0)", p -> p.remaining(0), 2);
        answers(postfix + "=BDACA", "needed", ProcessLog::needed, 2);
        answers(postfix + "=BDACAB", "mayStop", MAY_STOP, 1);
        answers(postfix + "=BDACAB", "next", ProcessLog::next, 0);
    }

    private static void singles(String name, char letter) {
        ToIntFunction<ProcessLog> wrap = p -> tell(p, letter);
        says(name + ": steps() is 16 answers FULL");
        refused(STEPS_16, name, wrap, FULL);
        refused(STEPS_16_ON_TWO, name, wrap, FULL);
        refused(STEPS_16_NO_EMPTY_WORD, name, wrap, FULL);
        answers(STEPS_15, name + " as step 16", wrap, 1);
        // With 16 steps the stack is never empty, so the two codes never apply at once.
        says(name + ": empty stack answers BAD_STACK");
        refused("", name, wrap, BAD_STACK);
        refused("0~", name, wrap, BAD_STACK);
        refused(STEPS_16 + "~", name, wrap, BAD_STACK);
        refused(STEPS_16 + "=", name, wrap, BAD_STACK);
        says(name + ": Otherwise answers the number on the stack.");
        answers("0", name, wrap, 1);
        answers("01", name, wrap, 2);
        answers("ssssssss", name, wrap, 8);
        answers(DEPTH_8, name, wrap, 8);
        answers("012301", name + " with six event pushes", wrap, 6);
        keepsLog(FULL_LOG + "01", letter);
    }

    private static void promises7And8() {
        singles("loop", '*');
        singles("option", '?');
        says("Puts loop X in place of the top X.");
        words("01*.", 3, "0", "01", "011");
        words("0*1.", 3, "1", "01", "001");
        says("As loop, but puts option X in place of the top X.");
        words("01?.", 3, "0", "01");
        words("0?1.", 3, "1", "01");
        words("0*?", 2, "", "0", "00");
    }

    private static void promise9() {
        says("The number of accepted calls of event, skip, seq, choice, both, loop and option");
        String run = "0s.1|2&*?s.?*?*?";
        for (int n = 0; n <= run.length(); n++) {
            answers(run.substring(0, n), "steps", ProcessLog::steps, n);
        }
        for (char c : "0s.|&*?".toCharArray()) {
            ProcessLog p = after("01" + c);
            due("steps after " + c, p.steps(), 3);
        }
        answers("01.=AB<^0", "steps after define, feeds, undo and restart", ProcessLog::steps, 1);
        keepsStack("01.=01", 'A');
        keepsStack("01.=A01", '<');
        keepsStack("01.=A01", '^');
        says("since the stack was last emptied by define or discard (or since the object was made)");
        answers("", "steps", ProcessLog::steps, 0);
        answers("01.=", "steps", ProcessLog::steps, 0);
        answers("01.=2*", "steps", ProcessLog::steps, 2);
        answers("01.~", "steps", ProcessLog::steps, 0);
        answers("01.~2*?", "steps", ProcessLog::steps, 3);
        says("steps: 0 to 16");
        answers(STEPS_15, "steps", ProcessLog::steps, 15);
        answers(STEPS_16, "steps", ProcessLog::steps, 16);
        ProcessLog full = after(STEPS_16);
        for (char c : "0s.|&*?".toCharArray()) {
            due(c + " at 16 steps", tell(full, c), FULL);
            due("steps after it", full.steps(), 16);
        }
        changesNothing("01.=A01", "steps", ProcessLog::steps, 2);
    }

    private static void promise10() {
        says("The number of expressions on the stack, 0 to 8.");
        String run = "ssssssss";
        for (int n = 0; n <= run.length(); n++) {
            answers(run.substring(0, n), "depth", ProcessLog::depth, n);
        }
        answers("012", "depth", ProcessLog::depth, 3);
        answers("012.", "depth", ProcessLog::depth, 2);
        answers("012.|", "depth", ProcessLog::depth, 1);
        answers("012*?", "depth", ProcessLog::depth, 3);
        answers("0=", "depth", ProcessLog::depth, 0);
        answers("012~", "depth", ProcessLog::depth, 0);
        ProcessLog full = after(run);
        due("skip on eight", full.skip(), FULL);
        due("event on eight", full.event(0), FULL);
        due("depth after them", full.depth(), 8);
        changesNothing("01.=A01", "depth", ProcessLog::depth, 2);
    }

    private static void promise11() {
        says("Empties the stack and sets steps() to 0.");
        for (String run : new String[] {"", "0", "01", STEPS_16, DEPTH_8, EVENTS_6, ALL_LIMITS}) {
            alike(run + "~", "");
        }
        due("discard of an empty stack", shownStack(after("~")), "steps 0 depth 0");
        due("discard twice", shownStack(after("01~~")), "steps 0 depth 0");
        says("The process and the log stay.");
        for (String run : new String[] {"", "01", STEPS_16, DEPTH_8, EVENTS_6}) {
            keepsLog(FULL_LOG + run, '~');
            alike(FULL_LOG + run + "~", FULL_LOG);
        }
    }

    private static void promise12() {
        says("BAD_STACK if the stack does not hold exactly one expression.");
        for (String run : new String[] {"", "01", "012", DEPTH_8, ALL_LIMITS, STEPS_16_ON_TWO, "0~", "0="}) {
            refused(run, "define", DEFINE, BAD_STACK);
        }
        says("define: Otherwise answers 0.");
        for (String run : new String[] {"s", "0", "01.", STEPS_15, STEPS_16, EVENTS_6, DEPTH_8 + "......."}) {
            answers(run, "define", DEFINE, 0);
            answers(FULL_LOG + run, "define", DEFINE, 0);
        }
        says("Makes the one expression on the stack the process, empties the stack, sets steps() to 0 and"
            + " empties the log.");
        for (String run : new String[] {"", "01.=A", FULL_LOG, "012301&&&&&=ABCDAB"}) {
            alike(run + STEPS_16 + "=", "0?=");
            alike(run + "23.=", "23.=");
            alike(run + "s=", "");
        }
        alike("01.=AB01.=", "01.=");
        due("the stack does not reach the process", shownLog(after("01.=A23&2&3&*")), shownLog(after("01.=A")));
    }

    private static void promise13() {
        says("feed: k not 0 to 3 answers BAD_ARG");
        for (int k : NO_NAMES) {
            keepsAll("01|2|3|*=AB", "feed(" + k + ")", p -> p.feed(k), BAD_ARG);
            keepsAll("", "feed(" + k + ")", p -> p.feed(k), BAD_ARG);
        }
        says("the log has 7 events answers FULL");
        keepsAll(FULL_LOG, "feed(0)", p -> p.feed(0), FULL);
        keepsAll(FULL_LOG + "01", "feed(2)", p -> p.feed(2), FULL);
        answers("0*12.&3.=AABAAA", "feed as the seventh", p -> p.feed(0), 7);
        answers(FULL_LOG + "<", "feed after undo", p -> p.feed(0), 7);
        answers(FULL_LOG + "^", "feed after restart", p -> p.feed(0), 1);
        says("the log followed by k is not the beginning of any word of the process answers NONE");
        keepsAll("01.02.|=A", "feed(0)", p -> p.feed(0), NONE);
        keepsAll("01.02.|=A", "feed(3)", p -> p.feed(3), NONE);
        keepsAll("01.02.|=AB", "feed(2)", p -> p.feed(2), NONE);
        keepsAll("01.02.|=", "feed(1)", p -> p.feed(1), NONE);
        answers("01.02.|=A", "feed(1)", p -> p.feed(1), 2);
        answers("01.02.|=A", "feed(2)", p -> p.feed(2), 2);
        says("feed: Tested in this order: [...] BAD_ARG; [...] FULL; [...] NONE.");
        keepsAll(FULL_LOG, "feed(4) on a full log", p -> p.feed(4), BAD_ARG);
        keepsAll(FULL_LOG, "feed(-1) on a full log", p -> p.feed(-1), BAD_ARG);
        keepsAll(FULL_LOG, "feed(1) of no beginning on a full log", p -> p.feed(1), FULL);
        keepsAll("000000.....*=AAAAAAA", "feed(1)", p -> p.feed(1), FULL);
        keepsAll("", "feed(4) of no beginning", p -> p.feed(4), BAD_ARG);
        says("feed: Otherwise the new length of the log.");
        for (int n = 0; n < 7; n++) {
            answers("0*=" + "AAAAAAA".substring(0, n), "feed", p -> p.feed(0), n + 1);
        }
        keepsStack("0*=01", 'A');
    }

    private static void promises14And15() {
        says("Takes the last event off the log and answers it");
        String log = "DBCACBD";
        for (int n = 7; n >= 1; n--) {
            String run = "01|2|3|*=" + log.substring(0, n);
            answers(run, "undo", UNDO, log.charAt(n - 1) - 'A');
            alike(run + "<", run.substring(0, run.length() - 1));
        }
        alike("01.02.|=AC<", "01.02.|=A");
        alike("01.02.|=AC<B", "01.02.|=AB");
        alike("01.2.03.|=AB<<AD", "01.2.03.|=AD");
        keepsStack("0*=AA01", '<');
        says("undo: NONE if the log is empty.");
        keepsAll("", "undo", UNDO, NONE);
        keepsAll("0=", "undo", UNDO, NONE);
        keepsAll("01.=", "undo", UNDO, NONE);
        keepsAll("01.=A<", "undo", UNDO, NONE);
        keepsAll("01.=AB^", "undo", UNDO, NONE);
        keepsAll("01.=A01.=", "undo after define", UNDO, NONE);
        says("restart: Empties the log.");
        String[] runs = {"", "01.=", "01.=A", "01.=AB", FULL_LOG, FULL_LOG + "01"};
        String[] fresh = {"", "01.=", "01.=", "01.=", "0*12.&3.=", "0*12.&3.=01"};
        for (int i = 0; i < runs.length; i++) {
            alike(runs[i] + "^", fresh[i]);
        }
        keepsStack("0*=AA01", '^');
    }

    private static void promises16And17() {
        says("The length of the log, 0 to 7.");
        for (int n = 0; n <= 7; n++) {
            keepsAll("0*=" + "AAAAAAA".substring(0, n), "length", ProcessLog::length, n);
        }
        ProcessLog full = after(FULL_LOG);
        due("feed on seven", full.feed(0), FULL);
        due("length after it", full.length(), 7);
        answers(FULL_LOG + "<", "length", ProcessLog::length, 6);
        says("The event at place i of the log (place 0 is the first)");
        String log = "DBCACBD";
        for (int n = 1; n <= 7; n++) {
            for (int i = 0; i < n; i++) {
                int place = i;
                answers("01|2|3|*=" + log.substring(0, n), "at(" + i + ")", p -> p.at(place), log.charAt(i) - 'A');
            }
        }
        says("at: NONE if there is none.");
        for (int n = 0; n <= 7; n++) {
            for (int i : new int[] {-1, n, n + 1, 7, 8, 16, -7, 256, MIN, MIN + 1, MAX}) {
                answers("01|2|3|*=" + log.substring(0, n), "at(" + i + ")", p -> p.at(i), NONE);
            }
        }
        keepsAll(FULL_LOG, "at(7)", p -> p.at(7), NONE);
        keepsAll(FULL_LOG, "at(-1)", p -> p.at(-1), NONE);
        answers(FULL_LOG + "<", "at(6) after undo", p -> p.at(6), NONE);
        answers(FULL_LOG + "^", "at(0) after restart", p -> p.at(0), NONE);
        answers(FULL_LOG + "0=", "at(0) after define", p -> p.at(0), NONE);
    }

    private static void promises18And19() {
        says("Whether the log is a word of the process.");
        keepsAll("s=", "mayStop", MAY_STOP, 1);
        keepsAll("0=", "mayStop", MAY_STOP, 0);
        keepsAll("0=A", "mayStop", MAY_STOP, 1);
        keepsAll("01.=A", "mayStop", MAY_STOP, 0);
        answers("01.0|=A", "mayStop with more to come", MAY_STOP, 1);
        answers("0*=AAAAAAA", "mayStop with a full log", MAY_STOP, 1);
        answers(FULL_LOG, "mayStop with a full log", MAY_STOP, 0);
        says("The set of the event names k such that the log followed by k is the beginning of some word of"
            + " the process");
        keepsAll("s=", "next", ProcessLog::next, 0);
        keepsAll("01|2|3|=", "next", ProcessLog::next, 15);
        for (int k = 0; k <= 3; k++) {
            answers(k + "=", "next", ProcessLog::next, 1 << k);
            answers(k + "=" + (char) ('A' + k), "next", ProcessLog::next, 0);
        }
        answers("01.02.|=A", "next", ProcessLog::next, 6);
        answers("01.23.&=C", "next", ProcessLog::next, 9);
        says("(also when the log has 7 events)");
        keepsAll(FULL_LOG, "next", ProcessLog::next, 5);
        answers("01|2|3|*=ABCDABC", "next", ProcessLog::next, 15);
        answers("01.*=ABABABA", "next", ProcessLog::next, 2);
        answers("0*1.=AAAAAAB", "next with nothing to come", ProcessLog::next, 0);
    }

    private static void promise20() {
        says("The least length of a completion of the log that has no event whose name is in the set barred");
        for (int barred = 0; barred <= 15; barred++) {
            int set = barred;
            // Ways: 3 alone, 0 1 and 2 2 2; the shortest that is not barred is due.
            int least = (set & 8) == 0 ? 1 : (set & 3) == 0 ? 2 : (set & 4) == 0 ? 3 : NONE;
            answers("301.|222..|=", "remaining(" + set + ")", p -> p.remaining(set), least);
            answers("s=", "remaining(" + set + ")", p -> p.remaining(set), 0);
            answers("0*=AA", "remaining(" + set + ")", p -> p.remaining(set), 0);
        }
        says("remaining: NONE if there is no such completion.");
        keepsAll("01.=", "remaining(1)", p -> p.remaining(1), NONE);
        keepsAll("01.=", "remaining(2)", p -> p.remaining(2), NONE);
        keepsAll("01.=", "remaining(15)", p -> p.remaining(15), NONE);
        keepsAll("01.=", "remaining(12)", p -> p.remaining(12), 2);
        says("BAD_ARG if barred is not 0 to 15.");
        for (int barred : NO_SETS) {
            keepsAll("01.=A", "remaining(" + barred + ")", p -> p.remaining(barred), BAD_ARG);
            keepsAll("", "remaining(" + barred + ")", p -> p.remaining(barred), BAD_ARG);
        }
        keepsAll("01.=A", "remaining(0)", p -> p.remaining(0), 1);
        keepsAll("01.=AB", "remaining(15)", p -> p.remaining(15), 0);
        says("(The log itself may have barred names.)");
        answers("01.=A", "remaining(1)", p -> p.remaining(1), 1);
        answers("01.=AB", "remaining(3)", p -> p.remaining(3), 0);
        answers(FULL_LOG, "remaining(3)", p -> p.remaining(3), 2);
        answers("00.=A", "remaining(1)", p -> p.remaining(1), NONE);
    }

    private static void promises21To23() {
        says("The least event name k such that some completion of least length of all completions (none"
            + " barred) begins with k");
        keepsAll("32|1|=", "advice", ProcessLog::advice, 1);
        keepsAll("3=", "advice", ProcessLog::advice, 3);
        keepsAll("10|=", "advice", ProcessLog::advice, 0);
        keepsAll("0=", "advice", ProcessLog::advice, 0);
        answers("1*0.=BBBBBBB", "advice with a full log", ProcessLog::advice, 0);
        answers("01.2|=", "advice, a lesser name is longer", ProcessLog::advice, 2);
        answers("0*3.=AA", "advice, a lesser name leads nowhere nearer", ProcessLog::advice, 3);
        answers("31.20.|=", "advice of two ways", ProcessLog::advice, 2);
        answers("31.20.|=D", "advice in one way", ProcessLog::advice, 1);
        answers(FULL_LOG, "advice with a full log", ProcessLog::advice, 2);
        says("advice: NONE if mayStop().");
        keepsAll("", "advice", ProcessLog::advice, NONE);
        keepsAll("0=A", "advice", ProcessLog::advice, NONE);
        keepsAll("01.?=", "advice with more to come", ProcessLog::advice, NONE);
        answers("0*=AAAAAAA", "advice with a full log", ProcessLog::advice, NONE);
        says("The set of the event names that are in every completion of the log");
        keepsAll("0123...=", "needed", ProcessLog::needed, 15);
        keepsAll("01.02.|=", "needed", ProcessLog::needed, 1);
        answers("01|=", "needed of two ways apart", ProcessLog::needed, 0);
        answers("01.=A", "needed, one name is in the log alone", ProcessLog::needed, 2);
        answers("01.0.=A", "needed, one name is in the log and again", ProcessLog::needed, 3);
        answers("013..213..|=", "needed of two ways that share two names", ProcessLog::needed, 10);
        answers("0*3.=", "needed, a loop needs nothing", ProcessLog::needed, 8);
        answers("01.2|3.=", "needed, in longer completions as well", ProcessLog::needed, 8);
        answers(FULL_LOG, "needed with a full log", ProcessLog::needed, 12);
        says("needed: (0 if the empty word is a completion)");
        keepsAll("", "needed", ProcessLog::needed, 0);
        keepsAll("01.=AB", "needed", ProcessLog::needed, 0);
        keepsAll("01.?=", "needed", ProcessLog::needed, 0);
        answers("0*=AAAAAAA", "needed with a full log", ProcessLog::needed, 0);
        says("remaining: BAD_ARG is tested before NONE.");
        answers("01.=", "remaining(15)", p -> p.remaining(15), NONE);
        answers(FULL_LOG, "remaining(15)", p -> p.remaining(15), NONE);
        for (int barred : NO_SETS) {
            // Names that bar every completion stand in the low bits of each of these.
            int set = barred | 15;
            keepsAll("01.=", "remaining(" + set + ")", p -> p.remaining(set), BAD_ARG);
            keepsAll(FULL_LOG, "remaining(" + set + ")", p -> p.remaining(set), BAD_ARG);
        }
    }

    public static void main(String[] args) {
        atMost512Calls();
        termsOfWords();
        termsOfBothAndLoop();
        termsOfLanguages();
        termsOfLogs();
        termsOfCalls();
        promise1();
        promise2BadArg();
        promise2Full();
        promise3();
        promises4To6();
        promises7And8();
        promise9();
        promise10();
        promise11();
        promise12();
        promise13();
        promises14And15();
        promises16And17();
        promises18And19();
        promise20();
        promises21To23();
        System.out.println(sentences + " sentences, " + checks + " checks, " + wrong + " wrong");
        if (wrong != 0) {
            System.exit(1);
        }
    }
}
