import java.util.function.IntToLongFunction;

/** The boundary cases of promises 1 to 24, sentence by sentence. */
final class BoundaryNumbers extends Sentences {
    private static final long CAP = 1_000_000_000_000L;

    private BoundaryNumbers() {
    }

    static void all() {
        objects();
        newObject();
        feed();
        end();
        grammar();
        fault();
        count();
        terms();
        off();
        letters();
        uses();
        reaches();
        empty();
        leans();
        blank();
        least();
        things();
        upto();
        labelled();
        first();
        marked();
        by();
        without();
        hangs();
        idle();
    }

    /** Of two KINDS, 0 and 1, there is one more below and above. */
    private static void noKind(IntToLongFunction call) {
        for (int kind : new int[] {-1, 2, 3, 5, 6, 7, 31, 32, MAX, MIN, MIN + 1}) {
            due("kind " + kind, call.applyAsLong(kind), -2);
        }
    }

    /** Sizes that are not 0 .. 5. */
    private static void noSize(IntToLongFunction call) {
        for (int n : new int[] {-1, 6, 7, 8, 64, MAX, MIN}) {
            due("size " + n, call.applyAsLong(n), -2);
        }
    }

    private static void noGrammar(IntToLongFunction call) {
        due("without a GRAMMAR", call.applyAsLong(0), -2);
        due("without a GRAMMAR", call.applyAsLong(1), -2);
        due("without a GRAMMAR", call.applyAsLong(-1), -2);
    }

    private static GrownKinds two() {
        return Kit.of("grammar most 5 a b;a=unit or atom x with a;b=bag atom y;");
    }

    // ---- what it is

    private static void objects() {
        sentence("What it is", "An object is used for at most 512 calls after it has been made; what later calls answer is free.");
        String text = "grammar most 2 a;a=row atom x or atom y;";
        GrownKinds x = Kit.of(text);
        // end(0), feed for twenty bytes each, end, grammar
        int calls = 1 + (text.length() + 19) / 20 + 1 + 1;
        while (calls + 5 <= 512) {
            calls += 5;
            due("takes, one of five up to call " + calls, x.takes(0, calls % 2), 1);
            due("things", x.things(0, 1), 1);
            due("undo", x.undo(), 0);
            due("length", x.length(0, 2, 0), 5);
            due("hangs", x.hangs(0, 1), 0);
        }
        while (calls < 512) {
            calls++;
            due("call " + calls, x.deepest(0, 2), 0);
        }
    }

    private static void newObject() {
        sentence("1", "No GRAMMAR.");
        GrownKinds x = new GrownKinds();
        for (int what = 0; what <= 5; what++) {
            due("count(" + what + ")", x.count(what), 0);
        }
        due("blank()", x.blank(), -2);
        due("idle()", x.idle(), -2);
        due("undo()", x.undo(), -2);
        due("anew()", x.anew(), -2);
        due("terms(0)", x.terms(0), -2);
        due("things(0, 0)", x.things(0, 0), -2);
        due("tells(0)", x.tells(0), -2);
        due("takes(0, 0)", x.takes(0, 0), -2);
        due("deal(0, 0, 0, 0)", x.deal(0, 0, 0, 0), -2);
        due("grammar() of nothing", x.grammar(), 0);
        due("blank()", x.blank(), -2);
    }

    // ---- the TAPE

    private static int four(String text) {
        return text.charAt(0) << 24 | text.charAt(1) << 16 | text.charAt(2) << 8 | text.charAt(3);
    }

    private static int feed(GrownKinds x, String twenty) {
        return x.feed(four(twenty.substring(0, 4)), four(twenty.substring(4, 8)), four(twenty.substring(8, 12)),
            four(twenty.substring(12, 16)), four(twenty.substring(16, 20)));
    }

    private static GrownKinds full(int bytes) {
        GrownKinds x = new GrownKinds();
        for (int i = 0; i < 20; i++) {
            due("feed", feed(x, "                    "), 20 * i + 20);
        }
        due("end", x.end(bytes), bytes);
        return x;
    }

    private static void feed() {
        sentence("2", "Twenty bytes come behind the TAPE,");
        GrownKinds x = new GrownKinds();
        due("feed", feed(x, "grammar most 3 a;a=a"), 20);
        due("feed", feed(x, "tom x or row atom y;"), 40);
        due("grammar", x.grammar(), 2);
        due("feed", feed(x, "grammar most 3 a????"), 20);
        due("end", x.end(16), 16);
        due("feed", feed(x, ";a=atom x;          "), 36);
        due("grammar", x.grammar(), 2);

        sentence("2", "four of each number, the highest first:");
        due("feed", x.feed(four("gram"), four("mar "), four("most"), four(" 3 a"), four(";   ")), 20);
        due("grammar", x.grammar(), 1);
        for (int i = 0; i < 20; i++) {
            int[] n = {0x20202020, 0x20202020, 0x20202020, 0x20202020, 0x20202020};
            n[i / 4] = n[i / 4] & ~(255 << 24 - i % 4 * 8) | 0xe9 << 24 - i % 4 * 8;
            due("feed", x.feed(n[0], n[1], n[2], n[3], n[4]), 20);
            due("grammar", x.grammar(), -4);
            due("place of a byte above 127", x.fault(1), i);
        }
        for (int number : new int[] {0, -1, MIN, MAX}) {
            due("feed", x.feed(number, 0, 0, 0, 0), 20);
            due("grammar", x.grammar(), -4);
            due("place", x.fault(1), 0);
        }

        sentence("2", "how many it has;");
        x = new GrownKinds();
        for (int i = 1; i <= 20; i++) {
            due("feed", x.feed(0, -1, MAX, MIN, i), 20 * i);
            due("count(5)", x.count(5), 20 * i);
        }
        due("end", x.end(7), 7);
        due("feed", x.feed(0, 0, 0, 0, 0), 27);

        sentence("2", "NONE, and none come, if it would have more than 400.");
        x = full(400);
        due("feed to 420", feed(x, "!!!!!!!!!!!!!!!!!!!!"), -1);
        due("count(5)", x.count(5), 400);
        due("grammar of blanks", x.grammar(), 0);
        x = full(381);
        due("feed to 401", feed(x, "!!!!!!!!!!!!!!!!!!!!"), -1);
        due("count(5)", x.count(5), 381);
        due("grammar of blanks", x.grammar(), 0);
        x = full(380);
        due("feed to 400", feed(x, "                   !"), 400);
        due("feed to 420", feed(x, "!!!!!!!!!!!!!!!!!!!!"), -1);
        due("grammar", x.grammar(), -4);
        due("the place of byte 400", x.fault(1), 399);
        due("feed to the empty TAPE", feed(x, "!!!!!!!!!!!!!!!!!!!!"), 20);
    }

    private static void end() {
        sentence("3", "The TAPE has its first n bytes alone: n;");
        GrownKinds x = new GrownKinds();
        due("end 0 of none", x.end(0), 0);
        due("feed", feed(x, "grammar most 3 a;a=a"), 20);
        due("end of all", x.end(20), 20);
        due("count(5)", x.count(5), 20);
        due("end", x.end(17), 17);
        due("count(5)", x.count(5), 17);
        due("grammar", x.grammar(), 1);
        due("feed", feed(x, "!!!!!!!!!!!!!!!!!!!!"), 20);
        due("end 0", x.end(0), 0);
        due("count(5)", x.count(5), 0);
        due("grammar", x.grammar(), 0);
        due("end of 400", full(400).end(400), 400);
        x = new GrownKinds();
        due("feed", feed(x, "grammar most 34 abcd"), 20);
        due("end in a word", x.end(18), 18);
        due("grammar", x.grammar(), -4);
        due("the place of a number behind it", x.fault(1), 13);
        due("feed", feed(x, "grammar most 34 abcd"), 20);
        due("end in a number", x.end(14), 14);
        due("grammar", x.grammar(), -4);
        due("the end is the end", x.fault(1), 14);
        due("feed", feed(x, "grammar most 3 abcde"), 20);
        due("end in a word", x.end(17), 17);
        due("grammar", x.grammar(), -4);
        due("the end is the end", x.fault(1), 17);
        for (String last : new String[] {"a", "7", " ", ";"}) {
            due("grammar of 400", Kit.grammar(x, "grammar most 3 a;" + " ".repeat(382) + last), last.equals(" ") ? 1 : -4);
            due("the last byte of 400", x.fault(1), last.equals("a") ? 400 : last.equals(" ") ? -1 : 399);
        }

        sentence("3", "NONE, and nothing happens, if it has not so many, or n is below 0.");
        x = new GrownKinds();
        due("end 1 of none", x.end(1), -1);
        due("feed", feed(x, "grammar most 3 a;a=a"), 20);
        for (int n : new int[] {21, 400, 401, -1, MAX, MIN}) {
            due("end " + n, x.end(n), -1);
            due("count(5)", x.count(5), 20);
        }
        due("end", x.end(17), 17);
        due("what is cut off does not come back", x.end(18), -1);
        due("grammar", x.grammar(), 1);
        due("end 401", full(400).end(401), -1);
    }

    // ---- grammar(), fault(), count()

    private static void grammar() {
        sentence("4", "The TAPE (empty then) is the GRAMMAR (in place of another), nothing done:");
        GrownKinds x = two();
        due("count(5): the TAPE", x.count(5), 0);
        due("takes", x.takes(0, 1), 1);
        due("grammar", Kit.grammar(x, "grammar most 2 a b c;c=atom q or unit;"), 2);
        due("count(5): the TAPE", x.count(5), 0);
        due("count(4): acts", x.count(4), 0);
        due("count(0): KINDS", x.count(0), 3);
        due("count(1): MOST", x.count(1), 2);
        due("count(2): PARTS", x.count(2), 2);
        due("terms(0)", x.terms(0), 0);
        due("off(2)", x.off(2), 0);
        due("things(2, 1)", x.things(2, 1), 1);
        due("things(0, 1)", x.things(0, 1), 0);
        due("things(0, 3)", x.things(0, 3), -2);
        due("undo", x.undo(), -5);
        due("grammar of a smaller one", Kit.grammar(x, "grammar most 0 z;z=unit;"), 2);
        due("things(1, 0)", x.things(1, 0), -2);
        GrownKinds y = new GrownKinds();
        for (String text : States.GRAMMARS) {
            due("grammar in place of another", Kit.grammar(y, text), text.split(";").length);
            States.same("in place of another", States.answers(y), States.answers(Kit.of(text)));
            due("takes", y.takes(0, 0), y.terms(0) - 1);
            States.answers(y);
        }

        sentence("4", "how many LINES (0: there is none then).");
        String names = "grammar most 7 a b c d e f;";
        due("one LINE", Kit.grammar(x, names), 1);
        due("blank", x.blank(), 63);
        due("seven LINES", Kit.grammar(x, names + "f=unit;e=unit;d=unit;c=unit;b=unit;a=unit;"), 7);
        due("count(3)", x.count(3), 7);
        due("none", Kit.grammar(x, ""), 0);
        due("count(3)", x.count(3), 0);
        due("count(0)", x.count(0), 0);
        due("count(1)", x.count(1), 0);
        due("count(2)", x.count(2), 0);
        due("blank", x.blank(), -2);
        due("terms(0)", x.terms(0), -2);
        due("fault(0)", x.fault(0), 0);
        due("fault(1)", x.fault(1), -1);
        due("none: blanks alone", Kit.grammar(x, " \n "), 0);

        sentence("4", "-4: a FAULT (all else stays).");
        String[] faulty = {"?", "grammar most 9 b;", "grammar most 1 b;b=unit or unit;b=unit;", "grammar most 1 b c d;b=b or unit;",
            "grammar most 1 b c d;b=" + TEN + " or unit;"};
        for (String text : faulty) {
            x = two();
            due("tells", Kit.tells(x, 1, "{yy}"), 0);
            due("takes", x.takes(0, 0), 1);
            due("deal", x.deal(1, 0, 5, 0), 6);
            int[] before = {x.count(0), x.count(1), x.count(2), x.count(3), x.count(4)};
            due("grammar", Kit.grammar(x, text), -4);
            for (int what = 0; what < 5; what++) {
                due("count(" + what + ") stays", x.count(what), before[what]);
            }
            due("the TAPE is empty", x.count(5), 0);
            due("off(0) stays", x.off(0), 1);
            due("terms(0) stays", x.terms(0), 2);
            due("things(1, 5) stays", x.things(1, 5), 1);
            due("left() stays", x.left(), 6);
            due("told(0) stays", x.told(0), 2);
            due("letters(1) stays", x.letters(1), 1 << 24);
            due("undo", x.undo(), 0);
            spelled(x, 0, 2, "1x1x0-");
        }
        x = new GrownKinds();
        due("grammar", Kit.grammar(x, "?"), -4);
        due("there is none still", x.blank(), -2);
    }

    private static void fault() {
        sentence("5", "Of the latest grammar(), what 0: its FAULT, 0 without,");
        GrownKinds x = new GrownKinds();
        String[] texts = {"?", "grammar most 8 a;", "grammar most 0 a b c d e f g;", "grammar most 0 a;a=a;", "grammar most 0 a;"};
        for (int i = 0; i < 5; i++) {
            due("grammar", Kit.grammar(x, texts[i]), i == 4 ? 1 : -4);
            due("fault(0)", x.fault(0), (i + 1) % 5);
        }
        due("grammar", Kit.grammar(x, texts[3]), -4);
        due("tells", Kit.tells(x, 0, "-"), -4);
        due("fault(0): tells() is none", x.fault(0), 4);
        due("grammar", Kit.grammar(x, ""), 0);
        due("fault(0)", x.fault(0), 0);

        sentence("5", "1: its place (of FAULT 4 the KIND; NONE without).");
        due("grammar", Kit.grammar(x, "  grammar most 3 a b c d e f;f=f; "), -4);
        due("fault(1): the KIND", x.fault(1), 5);
        due("grammar", Kit.grammar(x, "  grammar most 3 a b c d e f;f=f; ="), -4);
        due("fault(1): a byte", x.fault(1), 34);
        due("grammar", Kit.grammar(x, "="), -4);
        due("fault(1): the first byte", x.fault(1), 0);
        String spaces = " ".repeat(399);
        due("grammar", Kit.grammar(x, spaces + "="), -4);
        due("fault(1): the last byte of 400", x.fault(1), 399);
        due("grammar", Kit.grammar(x, "grammar" + " ".repeat(393)), -4);
        due("fault(1): the end of 400", x.fault(1), 400);
        due("grammar", Kit.grammar(x, "grammar most 3 a;"), 1);
        due("fault(1): NONE", x.fault(1), -1);

        sentence("5", "NONE for another what, and ahead of any (what 1).");
        x = new GrownKinds();
        due("fault(1) ahead of any", x.fault(1), -1);
        due("fault(0) ahead of any", x.fault(0), 0);
        for (int what : new int[] {-1, 2, 3, MAX, MIN}) {
            due("fault(" + what + ") ahead of any", x.fault(what), -1);
        }
        due("grammar", Kit.grammar(x, "grammar most 8"), -4);
        for (int what : new int[] {-1, 2, 3, MAX, MIN}) {
            due("fault(" + what + ")", x.fault(what), -1);
        }
    }

    private static void count() {
        sentence("6", "0 KINDS, 1 MOST, 2 PARTS of all LINES, 3 LINES, 4 acts, 5 bytes of the TAPE.");
        GrownKinds x = Kit.of("grammar most 0 a;");
        int[] least = {1, 0, 0, 1, 0, 0};
        for (int what = 0; what <= 5; what++) {
            due("count(" + what + ")", x.count(what), least[what]);
        }
        x = Kit.of("grammar most 7 a b c d e f;a=" + TEN + ";b=unit with unit;c=unit with row (atom x or atom x with bag atom y);"
            + "d=unit;e=unit;f=unit with unit;");
        for (int term = 0; term < 10; term++) {
            due("takes", x.takes(0, term), 9 - term);
        }
        due("feed", x.feed(0, 0, 0, 0, 0), 20);
        int[] many = {6, 7, 10 + 2 + 7 + 4, 7, 10, 20};
        for (int what = 0; what <= 5; what++) {
            due("count(" + what + ")", x.count(what), many[what]);
        }
        due("undo", x.undo(), 9);
        due("count(4) then", x.count(4), 9);
        due("takes, refused", x.takes(0, 0), -5);
        due("count(4) then", x.count(4), 9);
        due("anew", x.anew(), 9);
        due("count(4) then", x.count(4), 0);
        due("end", x.end(0), 0);
        due("count(5) then", x.count(5), 0);

        sentence("6", "NONE for others.");
        for (int what : new int[] {-1, 6, 7, MAX, MIN}) {
            due("count(" + what + ")", x.count(what), -1);
            due("count(" + what + ") of a new one", new GrownKinds().count(what), -1);
        }
    }

    // ---- KINDS

    private static void terms() {
        sentence("7", "How many TERMS a KIND has (OFF ones, too).");
        GrownKinds x = Kit.of("grammar most 5 a b c;a=" + TEN + ";c=(unit or unit or unit);");
        due("ten", x.terms(0), 10);
        due("without a LINE", x.terms(1), 0);
        due("not those in brackets", x.terms(2), 1);
        due("takes", x.takes(0, 9), 9);
        due("takes", x.takes(2, 0), 0);
        due("OFF ones, too", x.terms(0), 10);
        due("OFF ones, too", x.terms(2), 1);

        sentence("7", "-2: there is no such KIND.");
        noKind(two()::terms);
        noGrammar(new GrownKinds()::terms);
    }

    private static void off() {
        sentence("8", "TERMS of a KIND that are OFF, as bits.");
        GrownKinds x = Kit.of("grammar most 5 a b;a=" + TEN + ";");
        due("none", x.off(0), 0);
        due("without a LINE", x.off(1), 0);
        int bits = 0;
        for (int term = 9; term >= 0; term--) {
            bits |= 1 << term;
            due("takes", x.takes(0, term), term);
            due("off", x.off(0), bits);
        }
        due("all", x.off(0), 1023);
        due("undo", x.undo(), 9);
        due("off", x.off(0), 1022);
        due("anew", x.anew(), 9);
        due("off", x.off(0), 0);

        sentence("8", "-2 likewise.");
        noKind(two()::off);
        noGrammar(new GrownKinds()::off);
    }

    private static void letters() {
        sentence("9", "Letters of atoms that stand in its TERMS (in brackets, too; not in OFF ones), as bits (bit 0: a).");
        GrownKinds x = Kit.of("grammar most 5 a b;a=atom a or atom z or (unit or (atom c)) or row bag 2 atom d or b or unit with ring (atom e);b=atom f;");
        due("all", x.letters(0), 1 | 1 << 25 | 4 | 8 | 16);
        due("of another KIND", x.letters(1), 32);
        int[] left = {1 << 25 | 4 | 8 | 16, 4 | 8 | 16, 8 | 16, 16, 16, 0};
        for (int term = 0; term < 6; term++) {
            due("takes", x.takes(0, term), 5 - term);
            due("letters", x.letters(0), left[term]);
        }
        due("undo", x.undo(), 5);
        due("letters", x.letters(0), 16);
        due("without a LINE", Kit.of("grammar most 5 a;").letters(0), 0);
        due("the last of 24", Kit.of("grammar most 5 a;a=" + "unit with ".repeat(23) + "atom z;").letters(0), 1 << 25);

        sentence("9", "-2 likewise.");
        noKind(two()::letters);
        noGrammar(new GrownKinds()::letters);
    }

    private static void uses() {
        sentence("10", "KINDS whose NAMES stand there likewise, as bits.");
        GrownKinds x = Kit.of("grammar most 5 a b c d e f;a=(atom x with (a)) or row f or b with c or unit;b=f;c=unit;");
        due("all", x.uses(0), 1 | 32 | 2 | 4);
        due("that KIND alone", x.uses(1), 32);
        due("none", x.uses(2), 0);
        due("without a LINE", x.uses(5), 0);
        due("the last of 24", Kit.of("grammar most 5 a b;a=" + "unit with ".repeat(23) + "b;").uses(0), 2);
        due("takes", x.takes(0, 1), 3);
        due("not in OFF ones", x.uses(0), 1 | 2 | 4);
        due("takes", x.takes(0, 0), 2);
        due("not in OFF ones", x.uses(0), 2 | 4);
        due("takes", x.takes(2, 0), 0);
        due("one without TERMS is used still", x.uses(0), 2 | 4);

        sentence("10", "-2 likewise.");
        noKind(two()::uses);
        noGrammar(new GrownKinds()::uses);
    }

    private static void reaches() {
        sentence("11", "KINDS that it uses so, or that one of these uses, and so on, as bits.");
        GrownKinds x = Kit.of("grammar most 5 a b c d e f;f=e;e=d with unit;d=row (atom y with c);c=b or unit;b=a;a=atom x;");
        for (int kind = 0; kind < 6; kind++) {
            due("a chain, not itself", x.reaches(kind), (1 << kind) - 1);
        }
        due("takes", x.takes(3, 0), 0);
        due("not over OFF ones", x.reaches(5), 8 | 16);
        x = Kit.of("grammar most 5 a b c d e f;a=atom x with b;b=c;c=d;d=e;e=f;f=atom y with a;");
        for (int kind = 0; kind < 6; kind++) {
            due("all round, itself too", x.reaches(kind), 63);
        }
        x = Kit.of("grammar most 5 a b c d e f;a=b;b=c;c=d;d=e;e=f;f=atom y with f;");
        for (int kind = 0; kind < 6; kind++) {
            due("a chain the other way", x.reaches(kind), kind == 5 ? 32 : 63 & ~((2 << kind) - 1));
        }

        sentence("11", "-2 likewise.");
        noKind(two()::reaches);
        noGrammar(new GrownKinds()::reaches);
    }

    private static void empty() {
        sentence("12", "1 if it is EMPTY (III), else 0.");
        GrownKinds x = Kit.of("grammar most 5 a b c d;a=unit;b=atom x;c=row b with b or a with a;");
        int[] due = {1, 0, 1, 0};
        for (int kind = 0; kind < 4; kind++) {
            due("empty(" + kind + ")", x.empty(kind), due[kind]);
        }
        due("takes", x.takes(0, 0), 0);
        due("empty(2)", x.empty(2), 0);
        due("undo", x.undo(), 0);
        due("empty(2)", x.empty(2), 1);

        sentence("12", "-2 likewise.");
        noKind(two()::empty);
        noGrammar(new GrownKinds()::empty);
    }

    private static void leans() {
        sentence("13", "KINDS on which it LEANS (III; itself alone, not over others), as bits.");
        GrownKinds x = Kit.of("grammar most 5 a b c d e f;a=b with c;b=d or unit;c=f or unit;d=atom x or e;f=unit with atom x with f;");
        int[] due = {2 | 4, 8, 32, 16, 0, 0};
        for (int kind = 0; kind < 6; kind++) {
            due("leans(" + kind + ")", x.leans(kind), due[kind]);
        }
        due("takes", x.takes(2, 1), 1);
        due("c is not EMPTY: not on b", x.leans(0), 4);

        sentence("13", "-2 likewise.");
        noKind(two()::leans);
        noGrammar(new GrownKinds()::leans);
    }

    private static void blank() {
        sentence("14", "KINDS that have no THING of the sizes 0 .. MOST, as bits.");
        GrownKinds x = Kit.of("grammar most 5 a b c d e f;a=unit;b=row 5 atom x;c=row 5 atom x with atom x;e=atom x with e;f=unit or c;");
        due("c above MOST, d without a LINE, e in no end of steps", x.blank(), 4 | 8 | 16);
        due("takes", x.takes(5, 0), 1);
        due("f, too", x.blank(), 4 | 8 | 16 | 32);
        due("none", Kit.of("grammar most 5 a b;a=unit;b=row 5 atom x;").blank(), 0);
        due("all", Kit.of("grammar most 5 a b c d e f;").blank(), 63);

        sentence("14", "-2: there is no GRAMMAR.");
        due("blank", new GrownKinds().blank(), -2);
        due("grammar", Kit.grammar(x, ""), 0);
        due("blank", x.blank(), -2);
    }

    private static void least() {
        sentence("15", "The least size (0 .. MOST) of which a KIND has a THING.");
        GrownKinds x = Kit.of("grammar most 5 a b c;a=row 2 atom x or unit;b=row 5 atom x;c=row 3 atom x or row 2 atom y;");
        due("0", x.least(0), 0);
        due("MOST", x.least(1), 5);
        due("2", x.least(2), 2);
        due("takes", x.takes(2, 1), 1);
        due("3", x.least(2), 3);
        due("of seven", Kit.of("grammar most 7 a;a=row 7 atom x;").least(0), 7);

        sentence("15", "NONE: it has none;");
        due("takes", x.takes(2, 0), 0);
        due("all OFF", x.least(2), -1);
        due("without a LINE", Kit.of("grammar most 5 a;").least(0), -1);
        due("above MOST", Kit.of("grammar most 5 a;a=row 6 atom x;").least(0), -1);

        sentence("15", "-2: there is no such KIND.");
        noKind(two()::least);
        noGrammar(new GrownKinds()::least);
    }

    // ---- numbers

    private static void things() {
        sentence("16", "How many THINGS (II) of a size n (0 .. MOST) a KIND has.");
        GrownKinds x = two();
        for (int n = 0; n <= 5; n++) {
            due("things(0, " + n + ")", x.things(0, n), 1);
        }
        x = Kit.of("grammar most 0 a;a=unit or unit or atom x;");
        due("of MOST 0", x.things(0, 0), 2);
        x = Kit.of("grammar most 7 a;a=row 7 (atom x or atom y) or row 6 atom z;");
        due("of MOST 7", x.things(0, 7), 128);
        due("none", x.things(0, 5), 0);

        sentence("16", "-2: there are none such.");
        noKind(kind -> two().things(kind, 0));
        noSize(n -> two().things(0, n));
        due("MOST 0, size 1", Kit.of("grammar most 0 a;a=unit;").things(0, 1), -2);
        due("MOST 7, size 8", Kit.of("grammar most 7 a;a=unit;").things(0, 8), -2);
        noGrammar(kind -> new GrownKinds().things(kind, 0));
    }

    private static void upto() {
        sentence("17", "Of sizes 0 .. n together.");
        GrownKinds x = Kit.of("grammar most 5 a b;a=row (atom x or atom y);b=row 5 atom x;");
        for (int n = 0; n <= 5; n++) {
            due("upto(0, " + n + ")", x.upto(0, n), (2 << n) - 1);
            due("upto(1, " + n + ")", x.upto(1, n), n == 5 ? 1 : 0);
        }
        x = Kit.of("grammar most 2 u v w;u=" + TEN + ";v=u with u with u;w=v with v with v with v or v with v with v with v with atom x or atom x with atom y;");
        due("above a million millions", x.upto(2, 0), CAP);
        due("above a million millions", x.upto(2, 1), CAP);
        due("above a million millions", x.upto(2, 2), CAP);

        sentence("17", "-2 likewise.");
        noKind(kind -> two().upto(kind, 0));
        noSize(n -> two().upto(0, n));
        noGrammar(kind -> new GrownKinds().upto(kind, 0));
    }

    private static void labelled() {
        sentence("18", "How many LABELLED ones (V).");
        GrownKinds x = Kit.of("grammar most 7 a b c d;a=row atom x;b=ring atom x;c=set atom x;d=row 7 (atom x or atom y);");
        due("of size 0", x.labelled(0, 0), 1);
        due("rows of size 7", x.labelled(0, 7), 5040);
        due("no ring of size 0", x.labelled(1, 0), 0);
        due("rings of size 7", x.labelled(1, 7), 720);
        due("sets of size 0", x.labelled(2, 0), 1);
        due("sets of size 7", x.labelled(2, 7), 1);
        due("rows of two letters", x.labelled(3, 7), 5040 * 128);
        GrownKinds six = Kit.of("grammar most 7 a b c d e f;a=atom x;f=bag 2 a or row 2 a;");
        due("the last of six KINDS", six.labelled(5, 2), 3);
        due("the first of six KINDS", six.labelled(0, 1), 1);
        due("none", x.labelled(3, 6), 0);
        due("takes", x.takes(3, 0), 0);
        due("none", x.labelled(3, 7), 0);
        due("undo", x.undo(), 0);
        due("again", x.labelled(3, 7), 5040 * 128);

        sentence("18", "-2 likewise.");
        noKind(kind -> two().labelled(kind, 0));
        noSize(n -> two().labelled(0, n));
        noGrammar(kind -> new GrownKinds().labelled(kind, 0));
    }

    private static void first() {
        sentence("19", "The least size (0 .. MOST) of which there are v THINGS, or more.");
        GrownKinds x = Kit.of("grammar most 5 a b;a=row (atom x or atom y);b=row 5 (atom x or atom y) or (unit or unit or unit) with row 5 atom x or unit;");
        for (int n = 0; n <= 5; n++) {
            due("just as many", x.first(0, 1L << n), n);
            due("one more", x.first(0, (1L << n) + 1), n == 5 ? -1 : n + 1);
        }
        due("of MOST", x.first(1, 2), 5);
        due("of MOST", x.first(1, 35), 5);
        due("of 0", x.first(1, 1), 0);
        due("a million millions", Kit.of("grammar most 1 u v;u=" + TEN + ";v=u with u with u with u with u with u with u with u with u with u"
            + " with u with u;").first(1, CAP), 0);

        sentence("19", "NONE: of none;");
        due("one more", x.first(1, 36), -1);
        due("a million millions", x.first(1, CAP), -1);
        due("of no THING", Kit.of("grammar most 5 a;").first(0, 1), -1);

        sentence("19", "-2: there is no such KIND, v is below 1 or above 1,000,000,000,000.");
        noKind(kind -> two().first(kind, 1));
        for (long v : new long[] {0, -1, Long.MIN_VALUE, CAP + 1, Long.MAX_VALUE, MIN}) {
            due("v " + v, x.first(0, v), -2);
        }
        due("v 4,294,967,297 is not 1", x.first(0, 4_294_967_297L), -1);
        noGrammar(kind -> new GrownKinds().first(kind, 1));
    }

    private static void marked() {
        sentence("20", "How many THINGS have just k (0 .. 7) atoms of a letter (0 .. 25).");
        GrownKinds x = Kit.of("grammar most 7 a b;a=row (atom a or atom z or atom b);b=ring (atom a or atom z);");
        long[] due = {128, 448, 672, 560, 280, 84, 14, 1};
        for (int k = 0; k <= 7; k++) {
            due("marked(0, 7, 0, " + k + ")", x.marked(0, 7, 0, k), due[k]);
            due("marked(0, 7, 25, " + k + ")", x.marked(0, 7, 25, k), due[k]);
            due("marked(0, 7, 24, " + k + "): a letter that does not stand there", x.marked(0, 7, 24, k), k == 0 ? 2187 : 0);
            due("marked(0, 0, 0, " + k + ")", x.marked(0, 0, 0, k), k == 0 ? 1 : 0);
            due("marked(0, 1, 0, " + k + ")", x.marked(0, 1, 0, k), k == 0 ? 2 : k == 1 ? 1 : 0);
        }
        for (String text : States.GRAMMARS) {
            markedAsCounted(Kit.of(text));
        }
        long[] rings = {1, 1, 3, 4, 3, 1, 1, 0};
        for (int k = 0; k <= 7; k++) {
            due("marked(1, 6, 0, " + k + ")", x.marked(1, 6, 0, k), rings[k]);
        }
        due("above a million millions", Kit.of("grammar most 1 u v;u=" + TEN + ";v=u with u with u with u with u with u with u with u with u"
            + " with u with u with u with atom x;").marked(1, 1, 23, 1), CAP);

        sentence("20", "-2: there are none such.");
        noKind(kind -> two().marked(kind, 0, 0, 0));
        noSize(n -> two().marked(0, n, 0, 0));
        for (int letter : new int[] {-1, 26, 27, 97, MAX, MIN}) {
            due("letter " + letter, two().marked(0, 5, letter, 0), -2);
        }
        for (int k : new int[] {-1, 8, 9, MAX, MIN}) {
            due("k " + k, two().marked(0, 5, 0, k), -2);
        }
        due("k above the size is such", two().marked(0, 2, 23, 7), 0);
        noGrammar(kind -> new GrownKinds().marked(kind, 0, 0, 0));
    }

    /** Against the atoms of all THINGS, one by one. */
    private static void markedAsCounted(GrownKinds y) {
        for (int kind = 0; kind < y.count(0); kind++) {
            for (int n = 0; n <= y.count(1) && y.things(kind, n) <= 200; n++) {
                for (int letter : new int[] {0, 16, 18, 23, 24, 25}) {
                    long[] found = new long[8];
                    for (int rank = 0; rank < y.things(kind, n); rank++) {
                        found[y.atoms(kind, n, rank, letter)]++;
                    }
                    for (int k = 0; k <= 7; k++) {
                        due("marked(" + kind + ", " + n + ", " + letter + ", " + k + ")", y.marked(kind, n, letter, k), found[k]);
                    }
                }
            }
        }
    }

    private static void by() {
        sentence("21", "How many THINGS a KIND has by a TERM of it (0 if that is OFF).");
        GrownKinds x = Kit.of("grammar most 5 a b;a=row (atom x or atom y) or (atom x or atom y or atom z) or unit with atom x or unit or unit or unit or unit or unit or unit or atom q;");
        due("by(0, 5, 0)", x.by(0, 5, 0), 32);
        due("by(0, 1, 0)", x.by(0, 1, 0), 2);
        due("by(0, 1, 1)", x.by(0, 1, 1), 3);
        due("by(0, 0, 1)", x.by(0, 0, 1), 0);
        due("by(0, 1, 9)", x.by(0, 1, 9), 1);
        due("by(0, 0, 8)", x.by(0, 0, 8), 1);
        due("takes", x.takes(0, 0), 9);
        due("OFF", x.by(0, 5, 0), 0);
        due("another one", x.by(0, 1, 1), 3);
        due("undo", x.undo(), 0);
        due("not OFF", x.by(0, 5, 0), 32);

        sentence("21", "-2: there are none such.");
        noKind(kind -> two().by(kind, 0, 0));
        noSize(n -> two().by(0, n, 0));
        for (int term : new int[] {-1, 2, 10, MAX, MIN}) {
            due("term " + term, two().by(0, 5, term), -2);
        }
        due("a KIND without a LINE", x.by(1, 0, 0), -2);
        due("term 10", x.by(0, 0, 10), -2);
        noGrammar(kind -> new GrownKinds().by(kind, 0, 0));
    }

    private static void without() {
        sentence("22", "How many THINGS the KIND of would have of a size n, if a TERM of a KIND were OFF, too.");
        GrownKinds x = Kit.of("grammar most 5 a b c;a=atom x or atom y or unit with atom z;b=row a;c=unit;");
        due("its own", x.without(0, 0, 0, 1), 2);
        due("another KIND's", x.without(0, 2, 1, 5), 32);
        due("one that does not matter", x.without(2, 0, 1, 5), 243);
        due("the only one", x.without(1, 0, 1, 0), 0);
        due("takes", x.takes(0, 2), 2);
        due("OFF, too", x.without(0, 1, 1, 5), 1);
        due("one that is OFF", x.without(0, 2, 1, 5), 32);
        GrownKinds six = Kit.of("grammar most 7 a b c d e f;a=atom x or atom y;f=bag 2 a or row 2 a;");
        due("the last of six KINDS", six.without(0, 1, 5, 2), 2);
        due("the last of six KINDS", six.without(5, 1, 5, 2), 3);
        due("the first of six KINDS", six.without(5, 1, 0, 1), 2);
        due("things as before", x.things(1, 5), 32);
        due("off as before", x.off(0), 4);
        due("acts as before", x.count(4), 1);
        due("undo", x.undo(), 0);
        due("without it again", x.without(0, 2, 1, 5), 32);
        due("without another", x.without(0, 1, 1, 5), 32);
        due("above a million millions", Kit.of("grammar most 1 u v w;u=" + TEN + ";v=u with u with u with u;w=v with v with v or v with v with v;")
            .without(2, 0, 2, 0), CAP);
        GrownKinds y = two();
        due("deal", y.deal(0, 0, 5, 0), 6);
        due("without", y.without(0, 0, 0, 5), 0);
        due("a DEAL goes on", y.left(), 6);

        sentence("22", "-2: there are none such.");
        noKind(kind -> two().without(kind, 0, 0, 0));
        noKind(kind -> two().without(0, 0, kind, 0));
        noSize(n -> two().without(0, 0, 0, n));
        for (int term : new int[] {-1, 2, 10, MAX, MIN}) {
            due("term " + term, two().without(0, term, 0, 5), -2);
        }
        due("a KIND without a LINE", Kit.of("grammar most 5 a b;a=unit;").without(1, 0, 0, 0), -2);
        due("of a KIND without a LINE", Kit.of("grammar most 5 a b;a=unit;").without(0, 0, 1, 0), 0);
        noGrammar(kind -> new GrownKinds().without(kind, 0, 0, 0));
    }

    private static void hangs() {
        sentence("23", "The TERM (10 times its KIND, and it) without which a KIND would have fewest THINGS of a size n (as told),"
            + " the first of several (by KINDS, then TERMS).");
        GrownKinds x = Kit.of("grammar most 5 a b c d e f;f=" + TEN.replace("unit", "atom x") + " ;");
        due("of ten alike the first", x.hangs(5, 1), 50);
        for (int term = 0; term < 9; term++) {
            due("takes", x.takes(5, term), 9 - term);
        }
        due("the last of ten", x.hangs(5, 1), 59);
        x = Kit.of("grammar most 5 a b c;a=atom x or (atom y or atom z);b=row 2 a or unit;c=a;");
        due("the one that takes most", x.hangs(0, 1), 1);
        due("a KIND that comes first", x.hangs(2, 1), 20);
        due("a KIND of its own", x.hangs(1, 2), 10);
        x = Kit.of("grammar most 5 a b;b=atom x;a=b;");
        due("of two KINDS the first", x.hangs(0, 1), 0);
        due("not of a KIND that it does not use", x.hangs(1, 1), 10);
        x = Kit.of("grammar most 5 a b;a=atom x;b=a with unit;");
        due("of two KINDS the first", x.hangs(1, 1), 0);
        // 10 to the 13th: with one of the ten OFF it is above a million millions still
        String v = "grammar most 1 u v w y;u=" + TEN + ";v=u with u with u with u;w=v with v with v with u;";
        due("as told, not u's", Kit.of(v + "y=w or v with unit or w;").hangs(3, 0), 10);
        due("a million millions less one TERM", Kit.of("grammar most 1 u v w y;u=" + TEN + ";v=u with u with u with u;w=v with v with v;y=w or v;")
            .without(0, 3, 2, 0), 282_429_536_481L);
        GrownKinds y = two();
        due("deal", y.deal(0, 0, 5, 0), 6);
        due("hangs", y.hangs(0, 5), 0);
        due("nothing happens by it", y.left(), 6);
        due("nothing happens by it", y.off(0), 0);

        sentence("23", "NONE: without none it has fewer;");
        x = Kit.of("grammar most 5 a b;a=atom x or unit;");
        due("no THING at all", x.hangs(0, 2), -1);
        due("without a LINE", x.hangs(1, 0), -1);
        due("takes", x.takes(0, 1), 1);
        due("all OFF that would be it", x.hangs(0, 0), -1);
        due("another size", x.hangs(0, 1), 0);
        x = Kit.of("grammar most 0 u v w;u=unit or unit or unit or unit or unit or unit;v=u with u with u with u or u with u with u with u;"
            + "w=v with v with v with v or v with v with v with v;");
        due("as told, without any there are a million millions", x.hangs(2, 0), -1);
        due("takes", x.takes(2, 0), 1);
        due("the other one", x.hangs(2, 0), 21);

        sentence("23", "-2: there are none such.");
        noKind(kind -> two().hangs(kind, 0));
        noSize(n -> two().hangs(0, n));
        noGrammar(kind -> new GrownKinds().hangs(kind, 0));
    }

    private static void idle() {
        sentence("24", "How many TERMS (not OFF) there are by which their KIND has no THING of the sizes 0 .. MOST.");
        GrownKinds x = Kit.of("grammar most 5 a b c;a=unit or row 5 atom x or row 6 atom x or atom y with b or set 2 atom z;b=c with unit;");
        due("three of a, one of b", x.idle(), 4);
        due("takes one of them", x.takes(0, 2), 4);
        due("not OFF ones", x.idle(), 3);
        due("takes another one", x.takes(0, 0), 3);
        due("not OFF ones", x.idle(), 3);
        due("none", two().idle(), 0);
        due("six KINDS, the first PART in brackets", Kit.of("grammar most 5 a b c d e f;a=(atom x or row 6 atom x);").idle(), 0);
        due("no TERM at all", Kit.of("grammar most 5 a b c d e f;").idle(), 0);
        due("of MOST 0", Kit.of("grammar most 0 a;a=" + TEN.replace("unit", "atom x") + ";").idle(), 10);
        due("of size MOST alone", Kit.of("grammar most 7 a;a=row 7 atom x;").idle(), 0);

        sentence("24", "-2: there is no GRAMMAR.");
        due("idle", new GrownKinds().idle(), -2);
        due("grammar", Kit.grammar(x, ""), 0);
        due("idle", x.idle(), -2);
    }
}
