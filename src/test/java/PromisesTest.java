/** For each promise of the document: ordinary inputs, the edges it names, and wrong inputs. */
public final class PromisesTest {
    private static final int[] OUTSIDE = {-1, 4, 5, 16, 256, -4, Integer.MAX_VALUE, Integer.MIN_VALUE};

    private static int checks = 0;
    private static int wrong = 0;

    private static void due(String call, int got, int want) {
        checks++;
        if (got != want) {
            wrong++;
            System.out.println(call + " answered " + got + ", due is " + want);
        }
    }

    private static void due(String call, boolean got, boolean want) {
        due(call, got ? 1 : 0, want ? 1 : 0);
    }

    /** Makes one expression on the stack: digits are events, s skip, and . | & * ? the joins. */
    private static ProcessLog build(ProcessLog p, String postfix) {
        for (int i = 0; i < postfix.length(); i++) {
            char c = postfix.charAt(i);
            int answer = switch (c) {
                case 's' -> p.skip();
                case '.' -> p.seq();
                case '|' -> p.choice();
                case '&' -> p.both();
                case '*' -> p.loop();
                case '?' -> p.option();
                default -> p.event(c - '0');
            };
            due(postfix + " at " + i + " accepted", answer > 0, true);
        }
        return p;
    }

    private static ProcessLog process(String postfix) {
        ProcessLog p = build(new ProcessLog(), postfix);
        due(postfix + " define", p.define(), 0);
        return p;
    }

    private static ProcessLog fed(String postfix, String events) {
        ProcessLog p = process(postfix);
        for (int i = 0; i < events.length(); i++) {
            due(postfix + " feed " + events + " at " + i, p.feed(events.charAt(i) - '0'), i + 1);
        }
        return p;
    }

    /** Holds the words of at most the given length against a list of those that are due. */
    private static void words(String postfix, int longest, String... want) {
        StringBuilder got = new StringBuilder();
        for (int length = 0; length <= longest; length++) {
            for (int code = 0; code < 1 << (2 * length); code++) {
                StringBuilder word = new StringBuilder();
                for (int i = length - 1; i >= 0; i--) {
                    word.append((code >> (2 * i)) & 3);
                }
                if (isWord(postfix, word)) {
                    got.append('[').append(word).append(']');
                }
            }
        }
        StringBuilder all = new StringBuilder();
        for (String word : want) {
            all.append('[').append(word).append(']');
        }
        checks++;
        if (!got.toString().contentEquals(all)) {
            wrong++;
            System.out.println("words of " + postfix + ": " + got + ", due are " + all);
        }
    }

    private static boolean isWord(String postfix, CharSequence word) {
        ProcessLog p = build(new ProcessLog(), postfix);
        p.define();
        for (int i = 0; i < word.length(); i++) {
            if (p.feed(word.charAt(i) - '0') < 0) {
                return false;
            }
        }
        return p.mayStop();
    }

    private static void promise1NewObject() {
        ProcessLog p = new ProcessLog();
        due("new depth", p.depth(), 0);
        due("new steps", p.steps(), 0);
        due("new length", p.length(), 0);
        due("new at(0)", p.at(0), ProcessLog.NONE);
        due("new mayStop", p.mayStop(), true);
        due("new next", p.next(), 0);
        due("new remaining(0)", p.remaining(0), 0);
        due("new remaining(15)", p.remaining(15), 0);
        due("new advice", p.advice(), ProcessLog.NONE);
        due("new needed", p.needed(), 0);
        due("new undo", p.undo(), ProcessLog.NONE);
        for (int k = 0; k < 4; k++) {
            due("new feed", p.feed(k), ProcessLog.NONE);
        }
        due("new define", p.define(), ProcessLog.BAD_STACK);
        due("constants", ProcessLog.BAD_ARG, -1);
        due("constants", ProcessLog.FULL, -2);
        due("constants", ProcessLog.BAD_STACK, -3);
        due("constants", ProcessLog.NONE, -4);
    }

    private static void promise2Event() {
        words("0", 2, "0");
        words("3", 2, "3");
        ProcessLog p = new ProcessLog();
        for (int n = 1; n <= 6; n++) {
            for (int k : OUTSIDE) {
                due("event outside", p.event(k), ProcessLog.BAD_ARG);
            }
            due("event", p.event(n % 4), n);
        }
        due("seventh event", p.event(0), ProcessLog.FULL);
        due("seventh event outside", p.event(4), ProcessLog.BAD_ARG);
        due("depth after refused event", p.depth(), 6);
        due("steps after refused event", p.steps(), 6);
        for (int n = 5; n >= 1; n--) {
            due("seq", p.seq(), n);
        }
        due("event when six are in one expression", p.event(0), ProcessLog.FULL);
        due("define", p.define(), 0);
        due("event after define", p.event(0), 1);
        fillEvents(p, 5);
        due("event with six after define", p.event(0), ProcessLog.FULL);
        p.discard();
        fillEvents(p, 6);
        due("event with six after discard", p.event(0), ProcessLog.FULL);

        ProcessLog deep = build(new ProcessLog(), "ssssssss");
        due("event on a full stack", deep.event(0), ProcessLog.FULL);
        due("event outside on a full stack", deep.event(-1), ProcessLog.BAD_ARG);
        ProcessLog sevenDeep = build(new ProcessLog(), "sssssss");
        due("event as the eighth", sevenDeep.event(0), 8);

        ProcessLog fifteen = build(new ProcessLog(), "s??????????????");
        due("event as step 16", fifteen.event(0), 2);
        due("event as step 17", fifteen.event(0), ProcessLog.FULL);
        due("event outside as step 17", fifteen.event(9), ProcessLog.BAD_ARG);
    }

    private static void fillEvents(ProcessLog p, int count) {
        for (int n = 0; n < count; n++) {
            due("event accepted", p.event(0) > 0, true);
        }
    }

    private static void promise3Skip() {
        words("s", 2, "");
        ProcessLog p = new ProcessLog();
        for (int n = 1; n <= 8; n++) {
            due("skip", p.skip(), n);
        }
        due("ninth skip", p.skip(), ProcessLog.FULL);
        due("depth", p.depth(), 8);
        due("steps", p.steps(), 8);
        due("choice on a full stack", p.choice(), 7);
        due("skip as the eighth", p.skip(), 8);
        ProcessLog fifteen = build(new ProcessLog(), "s??????????????");
        due("skip as step 16", fifteen.skip(), 2);
        due("skip as step 17", fifteen.skip(), ProcessLog.FULL);
        due("skip after six events", build(new ProcessLog(), "000000").skip(), 7);
    }

    private static void promise4Seq() {
        words("01.", 3, "01");
        words("s1.", 3, "1");
        words("1s.", 3, "1");
        words("ss.", 2, "");
        words("0?1?.", 3, "", "0", "1", "01");
        words("0*1.", 3, "1", "01", "001");
        words("01*.", 3, "0", "01", "011");
        words("01|23|.", 3, "02", "03", "12", "13");
        refusesPairs("seq", '.');
    }

    private static void promise5Choice() {
        words("01|", 2, "0", "1");
        words("0s|", 2, "", "0");
        words("s0|", 2, "", "0");
        words("ss|", 2, "");
        words("0*1|", 2, "", "0", "1", "00");
        words("01*|", 2, "", "0", "1", "11");
        words("01.02.|", 3, "01", "02");
        words("00.0|", 3, "0", "00");
        refusesPairs("choice", '|');
    }

    private static void promise6Both() {
        words("01&", 3, "01", "10");
        words("s1&", 2, "1");
        words("1s&", 2, "1");
        words("ss&", 2, "");
        words("00&", 3, "00");
        words("01.2&", 4, "012", "021", "201");
        words("01.23.&", 5, "0123", "0213", "0231", "2013", "2031", "2301");
        words("01.01.&", 5, "0011", "0101");
        words("0*1&", 3, "1", "01", "10", "001", "010", "100");
        words("0?1?&", 3, "", "0", "1", "01", "10");
        words("01&*", 4, "", "01", "10", "0101", "0110", "1001", "1010");
        words("01&2.", 4, "012", "102");
        words("201&.", 4, "201", "210");
        words("01&2|", 4, "2", "01", "10");
        refusesPairs("both", '&');
        ProcessLog six = process("01&2&3&0&1&");
        due("both of six events", six.remaining(0), 6);
        due("both of six events needs", six.needed(), 15);
    }

    private static int join(ProcessLog p, char c) {
        return switch (c) {
            case '.' -> p.seq();
            case '|' -> p.choice();
            case '&' -> p.both();
            case '*' -> p.loop();
            default -> p.option();
        };
    }

    private static void refusesPairs(String name, char c) {
        ProcessLog p = new ProcessLog();
        due(name + " on an empty stack", join(p, c), ProcessLog.BAD_STACK);
        p.event(0);
        due(name + " on one", join(p, c), ProcessLog.BAD_STACK);
        due(name + " refused: depth", p.depth(), 1);
        due(name + " refused: steps", p.steps(), 1);
        p.event(1);
        p.event(2);
        due(name + " on three", join(p, c), 2);
        due(name + " accepted: steps", p.steps(), 4);
        due(name + " on two", join(p, c), 1);
        due(name + " accepted: depth", p.depth(), 1);
        ProcessLog fourteen = build(new ProcessLog(), "ss????????????s");
        due(name + " as step 16", join(fourteen, c), 2);
        due(name + " as step 17", join(fourteen, c), ProcessLog.FULL);
        due(name + " refused at step 17: depth", fourteen.depth(), 2);
        ProcessLog single = build(new ProcessLog(), "s???????????????");
        due(name + " as step 17 on one: FULL first", join(single, c), ProcessLog.FULL);
    }

    private static void promise7Loop() {
        words("0*", 3, "", "0", "00", "000");
        words("01.*", 4, "", "01", "0101");
        words("01|*", 2, "", "0", "1", "00", "01", "10", "11");
        words("s*", 2, "");
        words("0**", 2, "", "0", "00");
        words("0?1?.*", 2, "", "0", "1", "00", "01", "10", "11");
        words("00.000..|*", 5, "", "00", "000", "0000", "00000");
        refusesSingles("loop", '*');
    }

    private static void promise8Option() {
        words("0?", 2, "", "0");
        words("01.?", 3, "", "01");
        words("s?", 2, "");
        words("0?1.", 3, "1", "01");
        refusesSingles("option", '?');
    }

    private static void refusesSingles(String name, char c) {
        ProcessLog p = new ProcessLog();
        due(name + " on an empty stack", join(p, c), ProcessLog.BAD_STACK);
        due(name + " refused: steps", p.steps(), 0);
        p.event(0);
        due(name + " on one", join(p, c), 1);
        due(name + " accepted: steps", p.steps(), 2);
        p.event(1);
        due(name + " on two", join(p, c), 2);
        due(name + " accepted: depth", p.depth(), 2);
        ProcessLog fifteen = build(new ProcessLog(), "s??????????????");
        due(name + " as step 16", join(fifteen, c), 1);
        due(name + " as step 17", join(fifteen, c), ProcessLog.FULL);
        due(name + " refused: steps", fifteen.steps(), 16);
    }

    private static void promise9Steps() {
        ProcessLog p = new ProcessLog();
        String postfix = "01.2|s&*?";
        for (int i = 0; i < postfix.length(); i++) {
            build(p, postfix.substring(i, i + 1));
            due("steps", p.steps(), i + 1);
        }
        p.event(7);
        p.seq();
        p.feed(0);
        p.undo();
        p.restart();
        due("steps after refused and other calls", p.steps(), 9);
        due("define", p.define(), 0);
        due("steps after define", p.steps(), 0);
        build(p, "01");
        due("refused define", p.define(), ProcessLog.BAD_STACK);
        due("steps after refused define", p.steps(), 2);
        p.discard();
        due("steps after discard", p.steps(), 0);
        due("steps at the limit", build(p, "s???????????????").steps(), 16);
    }

    private static void promise10Depth() {
        ProcessLog p = new ProcessLog();
        due("depth", build(p, "012").depth(), 3);
        due("depth", build(p, ".").depth(), 2);
        due("depth", build(p, "*").depth(), 2);
        due("depth", build(p, "|").depth(), 1);
        due("depth", build(p, "sssssss").depth(), 8);
        p.discard();
        due("depth", p.depth(), 0);
        build(p, "0").define();
        due("depth", p.depth(), 0);
    }

    private static void promise11Discard() {
        ProcessLog p = fed("01.2.", "01");
        build(p, "33.");
        p.discard();
        due("depth after discard", p.depth(), 0);
        due("steps after discard", p.steps(), 0);
        due("length after discard", p.length(), 2);
        due("next after discard", p.next(), 4);
        due("undo after discard", p.undo(), 1);
        due("next after discard and undo", p.next(), 2);
        due("define after discard", p.define(), ProcessLog.BAD_STACK);
        new ProcessLog().discard();
    }

    private static void promise12Define() {
        ProcessLog p = fed("01.", "0");
        due("define on none", p.define(), ProcessLog.BAD_STACK);
        build(p, "23");
        due("building leaves the process", p.next(), 2);
        due("define on two", p.define(), ProcessLog.BAD_STACK);
        due("refused define: depth", p.depth(), 2);
        due("refused define: length", p.length(), 1);
        due("refused define: next", p.next(), 2);
        due("choice", p.choice(), 1);
        due("define on one", p.define(), 0);
        due("define: depth", p.depth(), 0);
        due("define: steps", p.steps(), 0);
        due("define: length", p.length(), 0);
        due("define: at(0)", p.at(0), ProcessLog.NONE);
        due("define: next", p.next(), 12);
        due("define: feed", p.feed(3), 1);
        due("define: mayStop", p.mayStop(), true);
        build(p, "0123...");
        due("define anew", p.define(), 0);
        due("define anew: remaining", p.remaining(0), 4);
        build(p, "s");
        due("define to a smaller one", p.define(), 0);
        due("define to a smaller one: next", p.next(), 0);
        due("define to a smaller one: mayStop", p.mayStop(), true);
    }

    private static void promise13Feed() {
        ProcessLog p = process("0*1.");
        for (int k : OUTSIDE) {
            due("feed outside", p.feed(k), ProcessLog.BAD_ARG);
        }
        due("feed of no beginning", p.feed(2), ProcessLog.NONE);
        due("length after refused feeds", p.length(), 0);
        for (int n = 1; n <= 7; n++) {
            due("feed", p.feed(0), n);
        }
        due("feed on a full log", p.feed(0), ProcessLog.FULL);
        due("feed of no beginning on a full log", p.feed(3), ProcessLog.FULL);
        due("feed outside on a full log", p.feed(4), ProcessLog.BAD_ARG);
        due("length of a full log", p.length(), 7);
        ProcessLog q = fed("01.02.|", "0");
        due("feed into neither branch", q.feed(0), ProcessLog.NONE);
        due("feed into the second branch", q.feed(2), 2);
        due("feed past the end", q.feed(2), ProcessLog.NONE);
    }

    private static void promise14Undo() {
        ProcessLog p = fed("0123...", "0123");
        for (int k = 3; k >= 0; k--) {
            due("undo", p.undo(), k);
            due("length after undo", p.length(), k);
            due("next after undo", p.next(), 1 << k);
        }
        due("undo of an empty log", p.undo(), ProcessLog.NONE);
        due("length after refused undo", p.length(), 0);
        ProcessLog q = fed("01|*", "0101010");
        due("undo of a full log", q.undo(), 0);
        due("feed after undo", q.feed(1), 7);
        due("at after undo and feed", q.at(6), 1);
    }

    private static void promise15Restart() {
        ProcessLog p = fed("01.2.", "01");
        build(p, "3");
        p.restart();
        due("length after restart", p.length(), 0);
        due("next after restart", p.next(), 1);
        due("undo after restart", p.undo(), ProcessLog.NONE);
        due("depth after restart", p.depth(), 1);
        due("steps after restart", p.steps(), 1);
        due("remaining after restart", p.remaining(0), 3);
        p.restart();
        due("length after a second restart", p.length(), 0);
    }

    private static void promise16Length() {
        ProcessLog p = process("0*");
        for (int n = 1; n <= 7; n++) {
            p.feed(0);
            due("length", p.length(), n);
        }
        p.feed(0);
        due("length", p.length(), 7);
        p.undo();
        due("length", p.length(), 6);
    }

    private static void promise17At() {
        ProcessLog p = fed("01|23||*", "3120213");
        String log = "3120213";
        for (int i = 0; i < 7; i++) {
            due("at", p.at(i), log.charAt(i) - '0');
        }
        due("at(7)", p.at(7), ProcessLog.NONE);
        due("at(8)", p.at(8), ProcessLog.NONE);
        due("at(-1)", p.at(-1), ProcessLog.NONE);
        due("at least int", p.at(Integer.MIN_VALUE), ProcessLog.NONE);
        due("at greatest int", p.at(Integer.MAX_VALUE), ProcessLog.NONE);
        p.undo();
        due("at(6) after undo", p.at(6), ProcessLog.NONE);
        due("at(5) after undo", p.at(5), 1);
        p.restart();
        due("at(0) after restart", p.at(0), ProcessLog.NONE);
    }

    private static void promise18MayStop() {
        due("mayStop", process("0").mayStop(), false);
        due("mayStop", fed("0", "0").mayStop(), true);
        due("mayStop", fed("01.*", "010").mayStop(), false);
        due("mayStop", fed("01.*", "0101").mayStop(), true);
        due("mayStop", fed("0*1&", "000").mayStop(), false);
        due("mayStop", fed("0*1&", "0010").mayStop(), true);
    }

    private static void promise19Next() {
        due("next", process("01|23||").next(), 15);
        due("next", fed("01.23.&", "2").next(), 9);
        due("next", fed("0", "0").next(), 0);
        due("next with a full log", fed("01|*", "0101010").next(), 3);
        due("next with a full log", fed("0*23.&", "0000020").next(), 9);
        due("next of an ambiguous log", fed("01.02.|0*|", "0").next(), 7);
    }

    private static void promise20Remaining() {
        due("remaining", process("0123...").remaining(0), 4);
        due("remaining", process("01.2|").remaining(0), 1);
        due("remaining", process("01.2|").remaining(4), 2);
        due("remaining", process("01.2|").remaining(8), 1);
        due("remaining", process("01.2|").remaining(5), ProcessLog.NONE);
        due("remaining of a word", fed("0*", "00").remaining(15), 0);
        due("remaining, the log has a barred name", fed("01.", "0").remaining(1), 1);
        due("remaining past a full log", fed("0*123..&", "0000000").remaining(0), 3);
        due("remaining at six", process("000000.....").remaining(0), 6);
        due("remaining by the short way", process("213.|0.").remaining(0), 2);
        due("remaining by the long way", process("213.|0.").remaining(4), 3);
        ProcessLog p = fed("01.", "0");
        for (int barred = 0; barred < 16; barred++) {
            due("remaining " + barred, p.remaining(barred), (barred & 2) == 0 ? 1 : ProcessLog.NONE);
        }
        due("remaining changes nothing", p.length(), 1);
    }

    private static void promise21Advice() {
        due("advice", process("01|").advice(), 0);
        due("advice, the shorter way", process("01.2|").advice(), 2);
        due("advice, the least of equal ways", process("32|1|").advice(), 1);
        due("advice", process("31.20.|").advice(), 2);
        due("advice", fed("31.20.|", "3").advice(), 1);
        due("advice on a word", fed("0*", "0").advice(), ProcessLog.NONE);
        due("advice on a word with more to come", process("01.?").advice(), ProcessLog.NONE);
        due("advice, not the least next", fed("0*3.", "0").advice(), 3);
        due("advice past a full log", fed("1*0.", "1111111").advice(), 0);
    }

    private static void promise22Needed() {
        due("needed", process("01.").needed(), 3);
        due("needed", process("01.02.|").needed(), 1);
        due("needed", process("0*3.").needed(), 8);
        due("needed on a word", process("01.?").needed(), 0);
        due("needed on a word", fed("01.*", "01").needed(), 0);
        due("needed", fed("01.*", "010").needed(), 2);
        due("needed, nothing in common", process("01|").needed(), 0);
        due("needed, in the log and again", fed("00.1.", "0").needed(), 3);
        due("needed past a full log", fed("0*23.&", "0000000").needed(), 12);
        due("needed of all", process("0123...").needed(), 15);
    }

    private static void promise23OrderAndLimits() {
        ProcessLog p = process("0");
        for (int barred : new int[] {-1, 16, 17, 31, Integer.MAX_VALUE, Integer.MIN_VALUE}) {
            due("remaining(" + barred + ")", p.remaining(barred), ProcessLog.BAD_ARG);
        }
        due("remaining(15)", p.remaining(15), ProcessLog.NONE);
        due("feed", p.feed(0), 1);
        due("remaining(16) of a word", p.remaining(16), ProcessLog.BAD_ARG);
        due("remaining(15) of a word", p.remaining(15), 0);
    }

    public static void main(String[] args) {
        promise1NewObject();
        promise2Event();
        promise3Skip();
        promise4Seq();
        promise5Choice();
        promise6Both();
        promise7Loop();
        promise8Option();
        promise9Steps();
        promise10Depth();
        promise11Discard();
        promise12Define();
        promise13Feed();
        promise14Undo();
        promise15Restart();
        promise16Length();
        promise17At();
        promise18MayStop();
        promise19Next();
        promise20Remaining();
        promise21Advice();
        promise22Needed();
        promise23OrderAndLimits();
        System.out.println(checks + " checks, " + wrong + " wrong");
        if (wrong != 0) {
            System.exit(1);
        }
    }
}
