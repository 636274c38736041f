import java.util.function.IntToLongFunction;

/** The boundary cases of promises 25 to 48, sentence by sentence. */
final class BoundaryThings extends Sentences {
    /** 200 THINGS of size 0 of KIND 0; 201 and one of size 1 of KIND 1; 5 of KIND 2. */
    static final String TWO_HUNDRED = "grammar most 1 a b c;a=(unit or unit) with (unit or unit) with (unit or unit) with c with c;"
        + "b=a or unit or atom x;c=unit or unit or unit or unit or unit;";
    private static final String TREES = "grammar most 4 a b;a=atom x with b;b=bag a;";
    private static final String WORDS = "grammar most 7 a b;a=row (atom x or atom y);b=bag (atom x or atom y or atom z);";

    private BoundaryThings() {
    }

    static void all() {
        length();
        sign();
        deep();
        atoms();
        term();
        symmetries();
        labels();
        tells();
        tellsRefused();
        told();
        shared();
        deepest();
        fullest();
        stiffest();
        chance();
        mean();
        boxed();
        bits();
        drawn();
        deal();
        dealt();
        left();
        takes();
        undo();
        anew();
    }

    private static GrownKinds words() {
        return Kit.of(WORDS);
    }

    private static void noKind(IntToLongFunction call) {
        for (int kind : new int[] {-1, 2, 3, 5, 6, 7, 31, 32, MAX, MIN}) {
            due("kind " + kind, call.applyAsLong(kind), -2);
        }
    }

    private static void noSize(IntToLongFunction call) {
        for (int n : new int[] {-1, 8, 9, 15, 64, MAX, MIN}) {
            due("size " + n, call.applyAsLong(n), -2);
        }
    }

    private static void noLetter(IntToLongFunction call) {
        for (int letter : new int[] {-1, 26, 27, 97, MAX, MIN}) {
            due("letter " + letter, call.applyAsLong(letter), -2);
        }
    }

    private static void noGrammar(IntToLongFunction call) {
        for (int kind : new int[] {0, 1, -1}) {
            due("without a GRAMMAR", call.applyAsLong(kind), -2);
        }
    }

    /** Of rows of two of two letters there are four; a RANK above goes beyond, whatever it wraps round to. */
    private static void noRank(IntToLongFunction call) {
        for (int rank : new int[] {-1, 4, 5, 8, 1024, 2048, MAX, MIN, MIN + 3}) {
            due("rank " + rank, call.applyAsLong(rank), -2);
        }
    }

    /** 200 are LISTED, 201 are not; of the latter neither a first nor a last RANK is told, nor one that is not there. */
    private static void notListed(IntToLongFunction of) {
        for (int rank : new int[] {0, 200, 201, -1, MAX, MIN}) {
            due("rank " + rank + " of 201", of.applyAsLong(rank), -3);
        }
    }

    // ---- THINGS by their RANKS

    private static void length() {
        sentence("25", "How many signs a THING is spelled by (VI).");
        GrownKinds x = Kit.of(TREES);
        due("of one atom", x.length(0, 1, 0), 3);
        due("a bag of none", x.length(1, 0, 0), 2);
        due("of four", x.length(0, 4, 3), 12);
        due("one sign", Kit.of("grammar most 0 a;a=unit;").length(0, 0, 0), 1);
        String four = "% with % with % with %;";
        x = Kit.of("grammar most 7 a b c d e f;a=" + four.replace("%", "b") + "b=" + four.replace("%", "c") + "c=" + four.replace("%", "d")
            + "d=" + four.replace("%", "e") + "e=" + four.replace("%", "unit") + "f=row 7 (atom x with a);");
        due("of more signs than the TAPE has", x.length(5, 7, 0), 7 * 1025 + 2);

        sentence("25", "-2: there is none such;");
        GrownKinds y = words();
        noKind(kind -> y.length(kind, 2, 0));
        noSize(n -> y.length(0, n, 0));
        noRank(rank -> y.length(0, 2, rank));
        due("the last one", y.length(0, 2, 3), 6);
        due("of no THING", Kit.of("grammar most 7 a;a=atom x;").length(0, 0, 0), -2);
        noGrammar(kind -> new GrownKinds().length(kind, 0, 0));

        sentence("25", "-3: not LISTED (so below; asked ahead of whether there is such a RANK, behind all else of -2).");
        GrownKinds z = Kit.of(TWO_HUNDRED);
        due("the last of 200", z.length(0, 0, 199), 10);
        due("behind the last of 200", z.length(0, 0, 200), -2);
        notListed(rank -> z.length(1, 0, rank));
        due("size ahead of it", z.length(1, 2, 0), -2);
        due("kind ahead of it", z.length(3, 0, 0), -2);
    }

    private static void sign() {
        sentence("26", "Its i-th sign (from 0), as a byte.");
        GrownKinds x = Kit.of("grammar most 2 a b;a=row 2 atom a or bag 2 atom z or set 2 (atom a or unit with atom b) or ring 2 atom c;b=unit;");
        String[] texts = {"0[aa]", "1{zz}", "2<1-b0a>", "3(cc)"};
        for (int rank = 0; rank < 4; rank++) {
            for (int i = 0; i < texts[rank].length(); i++) {
                due("sign(0, 2, " + rank + ", " + i + ")", x.sign(0, 2, rank, i), texts[rank].charAt(i));
            }
        }

        sentence("26", "NONE: there are not so many;");
        for (int i : new int[] {5, 6, 255, 256, 257, 400, MAX}) {
            due("sign " + i, x.sign(0, 2, 0, i), -1);
            due("sign " + (i == 5 ? 1 : i), x.sign(1, 0, 0, i == 5 ? 1 : i), -1);
        }
        due("behind a longer one", x.sign(0, 2, 2, 8), -1);
        due("behind a shorter one", x.sign(0, 2, 3, 5), -1);

        sentence("26", "-2: there is none such, i is below 0;");
        due("sign -1", x.sign(0, 2, 0, -1), -2);
        due("sign MIN", x.sign(0, 2, 0, MIN), -2);
        GrownKinds y = words();
        noKind(kind -> y.sign(kind, 2, 0, 0));
        noSize(n -> y.sign(0, n, 0, 0));
        noRank(rank -> y.sign(0, 2, rank, 0));
        due("of none such, behind its signs", y.sign(0, 2, 4, 400), -2);
        noGrammar(kind -> new GrownKinds().sign(kind, 0, 0, 0));

        sentence("26", "-3 likewise.");
        GrownKinds z = Kit.of(TWO_HUNDRED);
        due("the last sign of the last of 200", z.sign(0, 0, 199, 9), '-');
        notListed(rank -> z.sign(1, 0, rank, 0));
        due("behind its signs", z.sign(1, 0, 0, 400), -3);
        due("i ahead of it", z.sign(1, 0, 0, -1), -2);
        due("size ahead of it", z.sign(1, 2, 0, 0), -2);
    }

    private static void deep() {
        sentence("27", "How many rows, bags, sets, rings stand in one another in it, at most.");
        GrownKinds x = Kit.of("grammar most 7 a;a=(((unit))) or row 1 bag 1 set 1 ring atom x or bag 1 atom y with row 1 row 1 atom z;");
        due("none", x.deep(0, 0, 0), 0);
        due("four", x.deep(0, 1, 0), 4);
        due("one and two side by side", x.deep(0, 2, 1), 2);
        String six = "row 1 row 1 bag 1 set 1 ring 1 ring 1 ";
        x = Kit.of("grammar most 7 a b c;a=" + six + "b;b=atom x with c or atom y;c=" + six + "a;");
        due("six", x.deep(0, 1, 0), 6);
        due("six, and six times twelve", x.deep(0, 7, 0), 6 + 6 * 12);
        due("a row of none", words().deep(0, 0, 0), 1);

        sentence("27", "-2, -3 likewise.");
        GrownKinds y = words();
        noKind(kind -> y.deep(kind, 2, 0));
        noSize(n -> y.deep(0, n, 0));
        noRank(rank -> y.deep(0, 2, rank));
        noGrammar(kind -> new GrownKinds().deep(kind, 0, 0));
        GrownKinds z = Kit.of(TWO_HUNDRED);
        due("of 200", z.deep(0, 0, 199), 0);
        due("behind the last of 200", z.deep(0, 0, 200), -2);
        notListed(rank -> z.deep(1, 0, rank));
        due("size ahead of it", z.deep(1, 2, 0), -2);
    }

    private static void atoms() {
        sentence("28", "How many atoms of a letter (0 .. 25) it has.");
        GrownKinds x = Kit.of("grammar most 7 a;a=row 3 atom a with bag 4 atom z or unit;");
        due("a", x.atoms(0, 7, 0, 0), 3);
        due("z", x.atoms(0, 7, 0, 25), 4);
        due("b", x.atoms(0, 7, 0, 1), 0);
        due("of a unit", x.atoms(0, 0, 0, 0), 0);
        due("all seven", Kit.of("grammar most 7 a;a=row 7 atom m;").atoms(0, 7, 0, 12), 7);

        sentence("28", "-2, -3 likewise.");
        GrownKinds y = words();
        noKind(kind -> y.atoms(kind, 2, 0, 0));
        noSize(n -> y.atoms(0, n, 0, 0));
        noRank(rank -> y.atoms(0, 2, rank, 0));
        noLetter(letter -> y.atoms(0, 2, 0, letter));
        noGrammar(kind -> new GrownKinds().atoms(kind, 0, 0, 0));
        GrownKinds z = Kit.of(TWO_HUNDRED);
        due("of 200", z.atoms(0, 0, 199, 25), 0);
        due("behind the last of 200", z.atoms(0, 0, 200, 0), -2);
        notListed(rank -> z.atoms(1, 0, rank, 0));
        due("size ahead of it", z.atoms(1, 2, 0, 0), -2);
        noLetter(letter -> z.atoms(1, 0, 0, letter));
    }

    private static void term() {
        sentence("29", "The TERM by which it is of its KIND.");
        GrownKinds x = Kit.of("grammar most 1 a b;a=" + TEN + ";b=a or (unit or unit) or atom x;");
        for (int rank = 0; rank < 10; rank++) {
            due("of ten", x.term(0, 0, rank), rank);
            due("not that of another KIND", x.term(1, 0, rank), 0);
        }
        due("not that in brackets", x.term(1, 0, 11), 1);
        due("the last one", x.term(1, 1, 0), 2);
        due("takes", x.takes(0, 0), 9);
        due("OFF ones have numbers still", x.term(0, 0, 0), 1);

        sentence("29", "-2, -3 likewise.");
        GrownKinds y = words();
        noKind(kind -> y.term(kind, 2, 0));
        noSize(n -> y.term(0, n, 0));
        noRank(rank -> y.term(0, 2, rank));
        noGrammar(kind -> new GrownKinds().term(kind, 0, 0));
        GrownKinds z = Kit.of(TWO_HUNDRED);
        due("of 200", z.term(0, 0, 199), 0);
        due("behind the last of 200", z.term(0, 0, 200), -2);
        notListed(rank -> z.term(1, 0, rank));
        due("size ahead of it", z.term(1, 2, 0), -2);
    }

    private static void symmetries() {
        sentence("30", "Its SYMMETRIES (V).");
        GrownKinds x = words();
        due("a bag of seven", x.symmetries(1, 7, 0), 5040);
        due("a bag of none", x.symmetries(1, 0, 0), 1);
        due("a row", x.symmetries(0, 2, 0), 1);
        due("a ring of seven", Kit.of("grammar most 7 a;a=ring atom x;").symmetries(0, 7, 0), 7);

        sentence("30", "-2, -3 likewise.");
        GrownKinds y = words();
        noKind(kind -> y.symmetries(kind, 2, 0));
        noSize(n -> y.symmetries(0, n, 0));
        noRank(rank -> y.symmetries(0, 2, rank));
        noGrammar(kind -> new GrownKinds().symmetries(kind, 0, 0));
        GrownKinds z = Kit.of(TWO_HUNDRED);
        due("of 200", z.symmetries(0, 0, 199), 1);
        due("behind the last of 200", z.symmetries(0, 0, 200), -2);
        notListed(rank -> z.symmetries(1, 0, rank));
        due("size ahead of it", z.symmetries(1, 2, 0), -2);
    }

    private static void labels() {
        sentence("31", "In how many ways it is LABELLED (V).");
        GrownKinds x = words();
        due("of size 0", x.labels(1, 0, 0), 1);
        due("a bag of seven alike", x.labels(1, 7, 0), 1);
        due("a bag of six and one", x.labels(1, 7, 1), 7);
        due("a row of seven", x.labels(0, 7, 127), 5040);
        due("a ring of seven", Kit.of("grammar most 7 a;a=ring atom x;").labels(0, 7, 0), 720);

        sentence("31", "-2, -3 likewise.");
        GrownKinds y = words();
        noKind(kind -> y.labels(kind, 2, 0));
        noSize(n -> y.labels(0, n, 0));
        noRank(rank -> y.labels(0, 2, rank));
        noGrammar(kind -> new GrownKinds().labels(kind, 0, 0));
        GrownKinds z = Kit.of(TWO_HUNDRED);
        due("of 200", z.labels(0, 0, 199), 1);
        due("behind the last of 200", z.labels(0, 0, 200), -2);
        notListed(rank -> z.labels(1, 0, rank));
        due("size ahead of it", z.labels(1, 2, 0), -2);
    }

    // ---- THINGS read

    private static void tells() {
        sentence("32", "The TAPE (empty then) is a THING of a KIND, spelled as in VI, THINGS of a bag, a set in any order, of a ring from any on: its RANK.");
        GrownKinds x = words();
        due("a row", Kit.tells(x, 0, "[1y0x]"), 2);
        due("the TAPE is empty", x.count(5), 0);
        due("a row in another order is another one", Kit.tells(x, 0, "[0x1y]"), 1);
        due("the first", Kit.tells(x, 0, "[]"), 0);
        due("the last", Kit.tells(x, 0, "[1y1y1y1y1y1y1y]"), 127);
        String[] six = {"{0x1y2z}", "{0x2z1y}", "{1y0x2z}", "{1y2z0x}", "{2z0x1y}", "{2z1y0x}"};
        for (String text : six) {
            due("a bag " + text, Kit.tells(x, 1, text), 5);
        }
        x = Kit.of("grammar most 7 a b c;a=atom x or atom y or atom z;b=set a;c=ring a;");
        due("a set", Kit.tells(x, 1, "<0x1y2z>"), 0);
        due("a set", Kit.tells(x, 1, "<1y2z0x>"), 0);
        due("a ring", Kit.tells(x, 2, "(0x1y2z)"), 4);
        due("a ring from another on", Kit.tells(x, 2, "(1y2z0x)"), 4);
        due("a ring from another on", Kit.tells(x, 2, "(2z0x1y)"), 4);
        due("a ring turned over is another one", Kit.tells(x, 2, "(2z1y0x)"), 5);
        GrownKinds y = Kit.of("grammar most 7 a b;a=atom x or atom y;b=bag (unit with set 2 ring 2 a or set 1 ring a);");
        holds("it is spelled in the order of IV", Kit.spelled(y, 1, 6, Kit.tells(y, 1, "{1<(0x0x)>0-<(1y0x)(0x0x)>}")).equals("{0-<(0x1y)(0x0x)>1<(0x0x)>}"));
        due("rings in sets in bags", Kit.tells(y, 1, "{0-<(0x0x)(1y0x)>1<(0x0x)>}"), Kit.tells(y, 1, "{1<(0x0x)>0-<(1y0x)(0x0x)>}"));
        due("it is one", x.count(3), 4);
        x = Kit.of("grammar most 6 a b c d;a=atom x or row 2 atom y or atom z;b=ring a;c=bag a;d=set (a or unit with a);");
        for (int n = 1; n <= 6; n++) {
            for (int rank = 0; rank < Math.min(200, x.things(1, n)) && x.things(1, n) <= 200; rank++) {
                turned(x, n, rank);
            }
            for (int rank = 0; n <= 5 && rank < x.things(2, n); rank++) {
                due("a bag the other way round", Kit.tells(x, 2, reversed(Kit.spelled(x, 2, n, rank))), rank);
            }
        }
        due("one byte", Kit.tells(Kit.of("grammar most 3 a;a=unit;"), 0, "-"), 0);
        due("one byte", Kit.tells(Kit.of("grammar most 3 a;a=atom b;"), 0, "b"), 0);
        x = Kit.of("grammar most 7 a b;a=bag (atom x or row 2 atom y);b=a with unit with a;");
        due("two bags side by side", Kit.tells(x, 1, "{0x1[yy]}-{1[yy]0x}"), Kit.tells(x, 1, "{1[yy]0x}-{0x1[yy]}"));

        sentence("32", "-2, and the TAPE stays: there is no such KIND;");
        for (int kind : new int[] {-1, 2, 6, 7, MAX, MIN}) {
            Kit.tape(x, "{0x}");
            due("kind " + kind, x.tells(kind), -2);
            due("the TAPE stays", x.count(5), 4);
            due("and is told then", x.tells(0), 0);
            due("the TAPE is empty", x.count(5), 0);
        }
        x = new GrownKinds();
        Kit.tape(x, "{0x}");
        due("without a GRAMMAR", x.tells(0), -2);
        due("the TAPE stays", x.count(5), 4);
    }

    private static final String TOKEN = "(?<=[xz\\]])(?=\\d)";

    /** A ring of a, from each of its THINGS on. */
    private static void turned(GrownKinds x, int n, int rank) {
        String text = Kit.spelled(x, 1, n, rank);
        String[] in = text.substring(1, text.length() - 1).split(TOKEN);
        for (int turn = 0; turn < in.length; turn++) {
            StringBuilder other = new StringBuilder("(");
            for (int i = 0; i < in.length; i++) {
                other.append(in[(turn + i) % in.length]);
            }
            due("tells " + other + ")", Kit.tells(x, 1, other + ")"), rank);
        }
    }

    private static String reversed(String text) {
        StringBuilder other = new StringBuilder();
        for (String one : text.substring(1, text.length() - 1).split(TOKEN)) {
            other.insert(0, one);
        }
        return "{" + other + "}";
    }

    private static void tellsRefused() {
        sentence("32", "-4: it is none of the sizes 0 .. MOST,");
        GrownKinds x = Kit.of("grammar most 3 a b c d e;a=atom x or atom y;b=bag a with unit;c=set a or set 2 ring a;d=ring 2 a;e=atom x with e or unit;");
        for (String text : new String[] {"", " ", "{}", "{}- ", " {}-", "{}--", "{-", "}-", "{0x-", "{x}-", "{2x}-", "{0y}-", "{0X}-", "{0x0}-",
            "[0x]-", "<0x>-", "(0x)-", "{0x}+", "{0x}\u00ad", "{0\u00f8}-", "\0"}) {
            due("tells " + text, Kit.tells(x, 1, text), -4);
            due("the TAPE is empty", x.count(5), 0);
        }
        due("a bag of none", Kit.tells(x, 1, "{}-"), 0);
        due("a bag of MOST", Kit.tells(x, 1, "{0x1y0x}-"), 1);
        due("above MOST", Kit.tells(x, 1, "{0x0x0x0x}-"), -4);
        due("MOST, by itself", Kit.tells(x, 4, "0x0x0x1-"), 0);
        due("above MOST, by itself", Kit.tells(x, 4, "0x0x0x0x1-"), -4);
        due("no end", Kit.tells(x, 4, "0x".repeat(20)), -4);
        // each sign in its turn is left out, put in twice, put in place of all others
        GrownKinds y = Kit.of("grammar most 7 a b c;a=atom x with b with bag c;b=unit with unit or row 2 c or unit;c=atom y or atom z or set 2 c;");
        int none = 0;
        int tried = 0;
        for (String good : new String[] {"x0--{}", "x2-{0y0y}", "x1[0y0y]{2<1z0y>}", "x2-{2<2<1z0y>0y>}", "x0--{0y2<0y1z>}"}) {
            due("tells " + good, Kit.tells(y, 0, good) >= 0 ? 1 : 0, 1);
            for (int i = 0; i < good.length(); i++) {
                String[] bad = {good.substring(0, i) + good.substring(i + 1), good.substring(0, i) + "!" + good.substring(i + 1),
                    good.substring(0, i) + "-" + good.substring(i), good.substring(0, i) + "}" + good.substring(i)};
                for (String text : bad) {
                    tried++;
                    none += Kit.tells(y, 0, text) == -4 ? 1 : 0;
                }
            }
        }
        due("texts that are none of " + tried, none, tried);
        due("a sign for two units", Kit.tells(Kit.of("grammar most 7 a b;a=atom x with b;b=unit with unit;"), 0, "--"), -4);
        due("38 atoms in a row", Kit.tells(Kit.of("grammar most 7 a b c d e f;f=row atom x;"), 5, "[" + "x".repeat(38) + "]"), -4);
        due("8 atoms in a row", Kit.tells(Kit.of("grammar most 7 a b c d e f;f=row atom x;"), 5, "[" + "x".repeat(8) + "]"), -4);
        due("7 atoms in a row", Kit.tells(Kit.of("grammar most 7 a b c d e f;f=row atom x;"), 5, "[" + "x".repeat(7) + "]"), 0);
        due("two in a row of one", Kit.tells(Kit.of("grammar most 7 a;a=row 1 atom x;"), 0, "[xx]"), -4);
        due("none in a row of one", Kit.tells(Kit.of("grammar most 7 a;a=row 1 atom x;"), 0, "[]"), -4);
        due("two alike in a set", Kit.tells(x, 2, "0<0x0x>"), -4);
        due("two in a set", Kit.tells(x, 2, "0<0x1y>"), 0);
        due("rings alike in a set", Kit.tells(x, 2, "1<(0x1y)(1y0x)>"), -4);
        due("three in a set of two", Kit.tells(x, 2, "1<(0x)(1y)(0x)>"), -4);
        due("one in a set of two", Kit.tells(x, 2, "1<(0x1y)>"), -4);
        due("a ring of none", Kit.tells(x, 2, "1<()(0x)>"), -4);
        due("one in a ring of two", Kit.tells(x, 3, "(0x)"), -4);
        due("two in a ring of two", Kit.tells(x, 3, "(1y0x)"), 1);
        due("three in a ring of two", Kit.tells(x, 3, "(0x0x0x)"), -4);
        due("takes", x.takes(0, 0), 1);
        due("by a TERM that is OFF", Kit.tells(x, 3, "(1y0x)"), -4);
        due("by the other one", Kit.tells(x, 3, "(1y1y)"), 0);
        due("of a KIND without a LINE", Kit.tells(Kit.of("grammar most 3 a;"), 0, "-"), -4);
        x = Kit.of("grammar most 5 a b;a=b with atom x;b=a with unit;");
        due("no end", Kit.tells(x, 0, "x-x-x-x-"), -4);
        due("no end of 40 bytes", Kit.tells(x, 0, "-x".repeat(20)), -4);
        due("no end of 40 bytes", Kit.tells(x, 1, "x".repeat(40)), -4);
        x = Kit.of("grammar most 5 a b;b=unit with b with a or unit;a=b with atom x or atom y;");
        due("no end of 40 bytes", Kit.tells(x, 1, "0-".repeat(20)), -4);
        x = Kit.of("grammar most 0 a;a=" + TEN + ";");
        due("TERM 9", Kit.tells(x, 0, "9-"), 9);
        due("TERM 10", Kit.tells(x, 0, ":-"), -4);
        due("ahead of TERM 0", Kit.tells(x, 0, "/-"), -4);

        sentence("32", "it has more than 40 bytes;");
        String ten = "unit" + " with unit".repeat(9);
        x = Kit.of("grammar most 2 a b c;a=" + ten + ";b=a with a with a with a;c=b with unit or b;");
        due("40 bytes", Kit.tells(x, 1, "-".repeat(40)), 0);
        due("39 bytes", Kit.tells(x, 1, "-".repeat(39)), -4);
        due("41 bytes, a THING", Kit.tells(x, 2, "1" + "-".repeat(40)), -4);
        due("the TAPE is empty", x.count(5), 0);
        due("42 bytes, a THING", Kit.tells(x, 2, "0" + "-".repeat(41)), -4);
        due("400 bytes", Kit.tells(x, 1, "-".repeat(400)), -4);

        sentence("32", "-3: not LISTED.");
        x = Kit.of(TWO_HUNDRED);
        due("the last of 200", Kit.tells(x, 0, "1-1-1-4-4-"), 199);
        due("one of 201", Kit.tells(x, 1, "01-1-1-4-4-"), -3);
        due("the TAPE is empty", x.count(5), 0);
        due("another one of 201", Kit.tells(x, 1, "1-"), -3);
        due("none of 201", Kit.tells(x, 1, "1-1-1-4-4-"), -4);
        due("of another size", Kit.tells(x, 1, "2x"), 0);
        due("takes", x.takes(1, 1), 2);
        y = Kit.of("grammar most 7 a b c;a=set (atom x or atom y or atom z) or row (atom x or atom y or atom z);b=a with set 2 ring 2 atom z;");
        due("one of more than 200", Kit.tells(y, 1, "1[0x1y1y0x]<(zz)(zz)>"), -4);
        due("one of more than 200", Kit.tells(y, 0, "1[0x1y1y0x1y2z]"), -3);
        due("none of more than 200: two alike in a set", Kit.tells(y, 0, "0<0x1y0x2z1y2z>"), -4);
        for (int i = 0; i < 50; i++) {
            due("one that does not end", Kit.tells(y, 0, "0<0x1y"), -4);
        }
        due("one that does", Kit.tells(y, 0, "0<0x1y>"), 0);
        due("the last of 200 then", Kit.tells(x, 1, "01-1-1-4-4-"), 199);
    }

    private static void told() {
        sentence("33", "Of the latest tells() that told a RANK, what 0: the size, 1: the RANK");
        GrownKinds x = words();
        due("tells", Kit.tells(x, 0, "[1y1y1y1y1y1y1y]"), 127);
        due("told(0)", x.told(0), 7);
        due("told(1)", x.told(1), 127);
        due("tells", Kit.tells(x, 1, "{}"), 0);
        due("told(0)", x.told(0), 0);
        due("told(1)", x.told(1), 0);

        sentence("33", "(it stays whatever is told, done then).");
        due("tells", Kit.tells(x, 0, "[1y0x1y]"), 5);
        due("tells none", Kit.tells(x, 0, "["), -4);
        due("tells of no KIND", x.tells(9), -2);
        due("told(0)", x.told(0), 3);
        due("told(1)", x.told(1), 5);
        due("takes", x.takes(0, 0), 0);
        due("tells none then", Kit.tells(x, 0, "[1y0x1y]"), -4);
        due("told(1)", x.told(1), 5);
        due("anew", x.anew(), 1);
        due("shared", x.shared(0, 0, 2), 4);
        due("told(0)", x.told(0), 3);
        due("grammar", Kit.grammar(x, TWO_HUNDRED), 4);
        due("tells one that is not LISTED", Kit.tells(x, 1, "1-"), -3);
        due("told(0)", x.told(0), 3);
        due("told(1)", x.told(1), 5);
        due("no GRAMMAR", Kit.grammar(x, ""), 0);
        due("told(0)", x.told(0), 3);
        due("told(1)", x.told(1), 5);

        sentence("33", "NONE for others, and ahead of any.");
        for (int what : new int[] {-1, 2, 3, MAX, MIN}) {
            due("told(" + what + ")", x.told(what), -1);
        }
        x = words();
        due("told(0) ahead of any", x.told(0), -1);
        due("told(1) ahead of any", x.told(1), -1);
        due("tells none", Kit.tells(x, 0, "["), -4);
        due("told(0) ahead of any", x.told(0), -1);
        due("told(1) ahead of any", x.told(1), -1);
        due("told(2) ahead of any", x.told(2), -1);
    }

    private static void shared() {
        sentence("34", "How many THINGS of a KIND of a size n are spelled as THINGS of another KIND, too (or itself),");
        GrownKinds x = Kit.of("grammar most 3 a b c d;a=row (atom x or atom y);b=row 2 (atom x or atom y or unit with atom z);c=row (atom y or atom x);");
        due("all", x.shared(0, 1, 2), 4);
        due("not all", x.shared(1, 0, 2), 4);
        due("of 9", x.things(1, 2), 9);
        due("none of another size", x.shared(0, 1, 1), 0);
        due("none by other digits", x.shared(0, 2, 1), 0);
        due("a row of none", x.shared(0, 2, 0), 1);
        due("itself", x.shared(0, 0, 3), 8);
        due("of a KIND without a LINE", x.shared(3, 0, 0), 0);
        due("with a KIND without a LINE", x.shared(0, 3, 0), 0);

        sentence("34", "as tells() has it (if not LISTED there, too).");
        // y[x][][x] comes ahead of y[][xx][] in c, behind it in d: a and b spell a bag of both each in another order
        GrownKinds y = Kit.of("grammar most 3 a b c d e f;a=unit with unit;b=atom x with a;c=row 2 atom x;d=row 1 atom x;e=row 3 atom x;f=bag 2 atom x;");
        due("two units are not an atom and two units", y.shared(0, 1, 0), 0);
        due("two are not one in a row", y.shared(2, 3, 2), 0);
        due("two are not three in a row", y.shared(2, 4, 2), 0);
        due("a row is not a bag", y.shared(2, 5, 2), 0);
        due("a row is one", y.shared(2, 2, 2), 1);
        String[] four = {"bag", "set", "ring"};
        for (int i = 0; i < 3; i++) {
            x = Kit.of("grammar most 6 a b c d p;p=row atom x;c=atom y with (p with p) with p;d=atom y with p with (p with p);a=" + four[i]
                + " 2 c;b=" + four[i] + " 2 d;");
            due("things of two of " + four[i], x.things(0, 6), i == 1 ? 60 : 66);
            due("all of " + four[i], x.shared(0, 1, 6), i == 1 ? 60 : 66);
            due("all of " + four[i], x.shared(1, 0, 6), i == 1 ? 60 : 66);
        }
        holds("in c's order", Kit.spelled(x, 2, 3, 2).equals("y[x][][x]") && Kit.spelled(x, 2, 3, 3).equals("y[][xx][]"));
        holds("in d's order", Kit.spelled(x, 3, 3, 2).equals("y[][xx][]") && Kit.spelled(x, 3, 3, 3).equals("y[x][][x]"));
        x = Kit.of(TWO_HUNDRED);
        due("with one that is not LISTED: 1- alone", x.shared(2, 1, 0), 1);
        x = Kit.of("grammar most 0 a b c;a=c with c with (unit or unit);b=c with c with c;c=" + TEN + ";");
        due("200 of 1000", x.shared(0, 1, 0), 200);
        due("things of the other", x.things(1, 0), 1000);
        String ten = "unit" + " with unit".repeat(9);
        x = Kit.of("grammar most 2 a b c;a=" + ten + ";b=a with a with a with a;c=b with unit or b;");
        due("40 bytes", x.shared(1, 1, 0), 1);
        due("41 and 42 bytes: tells() has them as none", x.shared(2, 2, 0), 0);

        sentence("34", "-2: there are none such;");
        GrownKinds z = words();
        noKind(kind -> z.shared(kind, 0, 2));
        noKind(kind -> z.shared(0, kind, 2));
        noSize(n -> z.shared(0, 1, n));
        noGrammar(kind -> new GrownKinds().shared(kind, kind, 0));

        sentence("34", "-3: not LISTED.");
        x = Kit.of(TWO_HUNDRED);
        due("of 200", x.shared(0, 0, 0), 200);
        due("of 201", x.shared(1, 1, 0), -3);
        due("of 201", x.shared(1, 2, 0), -3);
        due("kind ahead of it", x.shared(1, 3, 0), -2);
        due("size ahead of it", x.shared(1, 0, 2), -2);
        due("of 201 of another size", x.shared(1, 1, 1), 1);
    }

    // ---- THINGS of a size together

    private static void deepest() {
        sentence("35", "The RANK of that which has most rows, bags, sets, rings in one another, the first of several.");
        GrownKinds x = Kit.of("grammar most 7 a b;a=atom x or row 1 atom x or row 1 bag 1 atom x or row 1 set 1 atom x or atom y;b=unit or unit;");
        due("the first of two", x.deepest(0, 1), 2);
        due("none has any", x.deepest(1, 0), 0);
        due("of size 0", Kit.of("grammar most 7 a;a=unit or row atom x;").deepest(0, 0), 1);
        due("takes", x.takes(0, 2), 4);
        due("the other one", x.deepest(0, 1), 2);
        due("takes", x.takes(0, 3), 3);
        due("the one that is left", x.deepest(0, 1), 1);
        x = Kit.of(TREES);
        due("the last", x.deepest(0, 4), 3);

        sentence("35", "NONE: there is no THING;");
        due("of size 0", x.deepest(0, 0), -1);
        due("of a KIND without a LINE", Kit.of("grammar most 7 a;").deepest(0, 7), -1);
        due("takes", x.takes(0, 0), 0);
        due("OFF", x.deepest(0, 4), -1);

        sentence("35", "-2: there are none such;");
        noKind(kind -> words().deepest(kind, 2));
        noSize(n -> words().deepest(0, n));
        noGrammar(kind -> new GrownKinds().deepest(kind, 0));

        sentence("35", "-3: not LISTED.");
        x = Kit.of(TWO_HUNDRED);
        due("of 200", x.deepest(0, 0), 0);
        due("of 201", x.deepest(1, 0), -3);
    }

    private static void fullest() {
        sentence("36", "The RANK of that which has most atoms of a letter (0 .. 25; if all have none, too), the first of several.");
        GrownKinds x = words();
        due("x", x.fullest(0, 7, 23), 0);
        due("y", x.fullest(0, 7, 24), 127);
        due("z: all have none", x.fullest(0, 7, 25), 0);
        due("a: all have none", x.fullest(0, 7, 0), 0);
        x = Kit.of("grammar most 2 a;a=row 2 atom z or atom a with atom z or atom z with atom a or row 2 atom y;");
        due("the first of two", x.fullest(0, 2, 0), 1);
        due("z", x.fullest(0, 2, 25), 0);
        due("y", x.fullest(0, 2, 24), 3);

        sentence("36", "NONE, -2, -3 likewise.");
        due("of size 0", x.fullest(0, 0, 0), -1);
        due("of a KIND without a LINE", Kit.of("grammar most 7 a;").fullest(0, 7, 0), -1);
        noKind(kind -> words().fullest(kind, 2, 0));
        noSize(n -> words().fullest(0, n, 0));
        noLetter(letter -> words().fullest(0, 2, letter));
        noGrammar(kind -> new GrownKinds().fullest(kind, 0, 0));
        GrownKinds z = Kit.of(TWO_HUNDRED);
        due("of 200", z.fullest(0, 0, 0), 0);
        due("of 201", z.fullest(1, 0, 0), -3);
        noLetter(letter -> z.fullest(1, 0, letter));
    }

    private static void stiffest() {
        sentence("37", "The RANK of that which has most SYMMETRIES, the first of several.");
        GrownKinds x = words();
        due("the first of several", x.stiffest(1, 7), 0);
        due("all have one", x.stiffest(0, 7), 0);
        x = Kit.of("grammar most 6 a;a=row 6 atom x or bag 3 atom x with bag 3 atom x or ring 6 atom x or bag 4 atom x with bag 2 atom x or bag 5 (atom x or row 2 atom x);");
        due("48 of 1, 36, 6, 48, 24", x.stiffest(0, 6), 3);
        due("takes", x.takes(0, 3), 4);
        due("36 of 1, 36, 6, 24", x.stiffest(0, 6), 1);

        sentence("37", "NONE, -2, -3 likewise.");
        due("of size 1", x.stiffest(0, 1), -1);
        due("of a KIND without a LINE", Kit.of("grammar most 7 a;").stiffest(0, 7), -1);
        noKind(kind -> words().stiffest(kind, 2));
        noSize(n -> words().stiffest(0, n));
        noGrammar(kind -> new GrownKinds().stiffest(kind, 0));
        x = Kit.of(TWO_HUNDRED);
        due("of 200", x.stiffest(0, 0), 0);
        due("of 201", x.stiffest(1, 0), -3);
    }

    private static void chance() {
        sentence("38", "What part of THINGS of a size n are by a TERM: above (what 0), below (1), in lowest terms (0 / 1).");
        GrownKinds x = Kit.of("grammar most 2 a;a=bag (atom x or atom y or atom z) or unit with atom x with atom x or atom y with atom x or row 1 atom q;");
        due("6 of 8 above", x.chance(0, 2, 0, 0), 3);
        due("6 of 8 below", x.chance(0, 2, 0, 1), 4);
        due("1 of 8 above", x.chance(0, 2, 1, 0), 1);
        due("1 of 8 below", x.chance(0, 2, 1, 1), 8);
        due("none above", x.chance(0, 2, 3, 0), 0);
        due("none below", x.chance(0, 2, 3, 1), 1);
        due("all above", x.chance(0, 0, 0, 0), 1);
        due("all below", x.chance(0, 0, 0, 1), 1);
        due("takes", x.takes(0, 1), 3);
        due("OFF above", x.chance(0, 2, 1, 0), 0);
        due("OFF below", x.chance(0, 2, 1, 1), 1);
        due("6 of 7 below", x.chance(0, 2, 0, 1), 7);
        x = Kit.of("grammar most 0 a b;a=b with b or b or unit with unit;b=" + TEN + ";");
        due("100 of 111", x.chance(0, 0, 0, 0), 100);
        due("100 of 111", x.chance(0, 0, 0, 1), 111);
        due("10 of 111", x.chance(0, 0, 1, 0), 10);

        sentence("38", "NONE: there is no THING;");
        x = Kit.of("grammar most 2 a b;a=atom x or atom y;");
        due("above", x.chance(0, 2, 0, 0), -1);
        due("below", x.chance(0, 2, 1, 1), -1);
        due("takes", x.takes(0, 0), 1);
        due("takes", x.takes(0, 1), 0);
        due("OFF", x.chance(0, 1, 0, 1), -1);

        sentence("38", "-2: there are none such;");
        noKind(kind -> words().chance(kind, 2, 0, 0));
        noSize(n -> words().chance(0, n, 0, 0));
        for (int term : new int[] {-1, 1, 10, MAX, MIN}) {
            due("term " + term, words().chance(0, 2, term, 0), -2);
        }
        for (int what : new int[] {-1, 2, MAX, MIN}) {
            due("what " + what, words().chance(0, 2, 0, what), -2);
        }
        due("a KIND without a LINE", x.chance(1, 0, 0, 0), -2);
        noGrammar(kind -> new GrownKinds().chance(kind, 0, 0, 0));

        sentence("38", "-3: not LISTED.");
        x = Kit.of(TWO_HUNDRED);
        due("of 200", x.chance(0, 0, 0, 1), 1);
        due("of 201", x.chance(1, 0, 0, 0), -3);
        due("term ahead of it", x.chance(1, 0, 3, 0), -2);
    }

    private static void mean() {
        sentence("39", "How many atoms of a letter (0 .. 25) they have, in the mean: above, below likewise.");
        GrownKinds x = Kit.of("grammar most 7 a b;a=row 1 atom a or bag (atom a or atom z);b=row 7 atom z;");
        due("a: 2 of 3 above", x.mean(0, 1, 0, 0), 2);
        due("a: 2 of 3 below", x.mean(0, 1, 0, 1), 3);
        due("z: 1 of 3 above", x.mean(0, 1, 25, 0), 1);
        due("z: 3 of 3", x.mean(0, 2, 25, 0), 1);
        due("z: 3 of 3", x.mean(0, 2, 25, 1), 1);
        due("none above", x.mean(0, 7, 1, 0), 0);
        due("none below", x.mean(0, 7, 1, 1), 1);
        due("of no atoms", x.mean(0, 0, 0, 0), 0);
        due("of no atoms", x.mean(0, 0, 0, 1), 1);
        due("seven", x.mean(1, 7, 25, 0), 7);
        due("seven", x.mean(1, 7, 25, 1), 1);
        due("28 of 8", x.mean(0, 7, 25, 0), 7);
        due("28 of 8", x.mean(0, 7, 25, 1), 2);
        due("takes", x.takes(0, 0), 1);
        due("1 of 2", x.mean(0, 1, 0, 1), 2);

        sentence("39", "NONE, -2, -3 likewise.");
        due("no THING", x.mean(1, 6, 25, 0), -1);
        due("no THING", x.mean(1, 6, 25, 1), -1);
        due("of a KIND without a LINE", Kit.of("grammar most 7 a;").mean(0, 7, 0, 0), -1);
        noKind(kind -> words().mean(kind, 2, 0, 0));
        noSize(n -> words().mean(0, n, 0, 0));
        noLetter(letter -> words().mean(0, 2, letter, 0));
        for (int what : new int[] {-1, 2, MAX, MIN}) {
            due("what " + what, words().mean(0, 2, 0, what), -2);
        }
        noGrammar(kind -> new GrownKinds().mean(kind, 0, 0, 0));
        GrownKinds z = Kit.of(TWO_HUNDRED);
        due("of 200", z.mean(0, 0, 0, 1), 1);
        due("of 201", z.mean(1, 0, 0, 0), -3);
        noLetter(letter -> z.mean(1, 0, letter, 0));
    }

    // ---- BOXES

    /** Boxes whose sizes are not 0 .. MOST (7), or whose low is above its high. */
    private static void noBox(Box call) {
        int[][] sizes = {{-1, 2}, {0, 8}, {8, 8}, {3, 2}, {7, 0}, {-1, -1}, {MIN, MAX}, {MAX, MIN}, {0, MAX}, {MIN, 0}, {1, 0}};
        for (int[] size : sizes) {
            due("low " + size[0] + ", high " + size[1], call.of(0, size[0], size[1]), -2);
        }
        noKind(kind -> call.of(kind, 0, 2));
    }

    private interface Box {
        long of(int kind, int low, int high);
    }

    private static void boxed() {
        sentence("40", "How many THINGS a BOX (VII) has: of a KIND, sizes low .. high (0 .. MOST).");
        GrownKinds x = words();
        due("all", x.boxed(0, 0, 7), 255);
        due("of size 0", x.boxed(0, 0, 0), 1);
        due("of MOST", x.boxed(0, 7, 7), 128);
        due("of two sizes", x.boxed(0, 2, 3), 12);
        due("of no THING", Kit.of(TREES).boxed(0, 0, 0), 0);
        due("of MOST 0", Kit.of("grammar most 0 a;a=unit;").boxed(0, 0, 0), 1);
        due("above a million millions", Kit.of("grammar most 0 u v;u=" + TEN + ";v=u with u with u with u with u with u with u with u with u with u"
            + " with u with u with u;").boxed(1, 0, 0), 1_000_000_000_000L);

        sentence("40", "-2: there are none such, low is above high.");
        noBox((kind, low, high) -> words().boxed(kind, low, high));
        noGrammar(kind -> new GrownKinds().boxed(kind, 0, 0));
    }

    private static final String MILLION = "grammar most 1 u v w;u=" + TEN + ";v=u with u with u with u with u with u;w=v or unit or atom x;";

    private static void bits() {
        sentence("41", "b (VII) of a BOX.");
        GrownKinds x = words();
        due("of 1", x.bits(0, 0, 0), 0);
        due("of 2", x.bits(0, 1, 1), 1);
        due("of 3", x.bits(0, 0, 1), 2);
        due("of 128", x.bits(0, 7, 7), 7);
        due("of 255", x.bits(0, 0, 7), 8);
        due("of 254", x.bits(0, 1, 7), 8);

        sentence("41", "NONE: it has no THING;");
        due("of size 0", Kit.of(TREES).bits(0, 0, 0), -1);
        due("takes", x.takes(0, 0), 0);
        due("OFF", x.bits(0, 0, 7), -1);

        sentence("41", "-2 likewise;");
        noBox((kind, low, high) -> words().bits(kind, low, high));
        noGrammar(kind -> new GrownKinds().bits(kind, 0, 0));

        sentence("41", "-3: it has more than 1,000,000.");
        x = Kit.of(MILLION);
        due("1,000,000", x.bits(1, 0, 1), 20);
        due("1,000,001", x.bits(2, 0, 0), -3);
        due("1,000,002", x.bits(2, 0, 1), -3);
        due("of size 1", x.bits(2, 1, 1), 0);
        due("low above high ahead of it", x.bits(2, 1, 0), -2);
        due("takes", x.takes(2, 1), 2);
        due("1,000,000 then", x.bits(2, 0, 0), 20);
        due("1,000,001 then", x.bits(2, 0, 1), -3);
    }

    private static void drawn() {
        sentence("42", "DRAWN out of a BOX by a word, what 0: the size, 1: the RANK.");
        GrownKinds x = words();
        due("size of 0", x.drawn(0, 0, 7, 0, 0), 0);
        due("rank of 0", x.drawn(0, 0, 7, 0, 1), 0);
        due("size of 254", x.drawn(0, 0, 7, 254, 0), 7);
        due("rank of 254", x.drawn(0, 0, 7, 254, 1), 127);
        due("size of 126", x.drawn(0, 0, 7, 126, 0), 6);
        due("rank of 126", x.drawn(0, 0, 7, 126, 1), 63);
        due("rank of 127", x.drawn(0, 0, 7, 127, 1), 0);
        due("size of 0 of sizes 3 .. 4", x.drawn(0, 3, 4, 0, 0), 3);
        due("rank of 8 of sizes 3 .. 4: by the second group", x.drawn(0, 3, 4, 0b100011111, 1), 0);
        x = Kit.of(MILLION);
        due("999,999", x.drawn(1, 0, 1, 999_999, 1), 999_999);

        sentence("42", "NONE: nothing is, it has no THING;");
        due("1,000,000", x.drawn(1, 0, 1, 1_000_000, 1), -1);
        due("1,000,000", x.drawn(1, 0, 1, 1_000_000, 0), -1);
        due("255 in all groups", words().drawn(0, 0, 7, 1_073_741_823, 0), -1);
        due("no THING", Kit.of(TREES).drawn(0, 0, 0, 0, 0), -1);
        due("no THING", Kit.of(TREES).drawn(0, 0, 0, 0, 1), -1);

        sentence("42", "-2: there are none such;");
        noBox((kind, low, high) -> words().drawn(kind, low, high, 0, 0));
        for (int word : new int[] {-1, 1_073_741_824, MAX, MIN}) {
            due("word " + word, words().drawn(0, 0, 7, word, 0), -2);
        }
        due("the largest word", words().drawn(0, 7, 7, 1_073_741_823, 1), 127);
        for (int what : new int[] {-1, 2, MAX, MIN}) {
            due("what " + what, words().drawn(0, 0, 7, 0, what), -2);
        }
        noGrammar(kind -> new GrownKinds().drawn(kind, 0, 0, 0, 0));

        sentence("42", "-3 likewise.");
        due("1,000,000", x.drawn(1, 0, 0, 7, 1), 7);
        due("1,000,001", x.drawn(2, 0, 0, 7, 1), -3);
        due("word ahead of it", x.drawn(2, 0, 0, -1, 1), -2);
    }

    private static void deal() {
        sentence("43", "A DEAL (VII) of a BOX begins, in place of another: how many it has.");
        GrownKinds x = words();
        due("of 255", x.deal(0, 0, 7, 0), 255);
        due("dealt", x.dealt(), 0);
        due("in place of another", x.deal(0, 1, 1, 1), 2);
        due("left", x.left(), 2);
        due("dealt", x.dealt(), 10_001);
        due("in place of the same", x.deal(0, 1, 1, 0), 2);
        due("dealt", x.dealt(), 10_000);
        x = Kit.of(TREES);
        due("a deal of 8", x.deal(0, 0, 4, 0), 8);
        due("of no THING, in place of another", x.deal(0, 0, 0, 0), 0);
        due("left", x.left(), 0);
        due("dealt", x.dealt(), -1);

        sentence("43", "-2: there are none such (seed 0 .. 2,000,000,000);");
        noBox((kind, low, high) -> words().deal(kind, low, high, 0));
        for (int seed : new int[] {-1, 2_000_000_001, MAX, MIN}) {
            due("seed " + seed, words().deal(0, 0, 7, seed), -2);
        }
        due("seed 2,000,000,000", x.deal(0, 3, 4, 2_000_000_000), 6);
        due("seed 2,000,000,000 is 0 modulo 8", x.dealt(), 30_000);
        noGrammar(kind -> new GrownKinds().deal(kind, 0, 0, 0));

        sentence("43", "-3, and the one there goes on: it has more than 1,000.");
        x = Kit.of("grammar most 1 u v w;u=" + TEN + ";v=u with u with u;w=v or unit;");
        due("1,000", x.deal(1, 0, 1, 1_023), 1_000);
        due("left", x.left(), 1_000);
        due("1,001", x.deal(2, 0, 1, 0), -3);
        due("left goes on", x.left(), 1_000);
        // 1,023 is no number of the BOX, nor is 5 times it and 3: 1,022; that of 1,022: 1,017; of 1,017: 992
        due("dealt goes on", x.dealt(), 992);
        due("left goes on", x.left(), 999);
        due("kind ahead of it", x.deal(3, 0, 1, 0), -2);
        due("seed ahead of it", x.deal(2, 0, 1, -1), -2);
    }

    private static void dealt() {
        sentence("44", "The next THING dealt: 10,000 times its size, and its RANK.");
        GrownKinds x = words();
        due("deal", x.deal(0, 7, 7, 127), 128);
        int at = 127;
        for (int i = 0; i < 128; i++) {
            due("dealt " + i, x.dealt(), 70_000 + at);
            at = (5 * at + 3) % 128;
        }
        x = Kit.of("grammar most 1 u v;u=" + TEN + ";v=u with u with u;");
        due("deal of 1,000", x.deal(1, 0, 0, 999), 1_000);
        boolean[] seen = new boolean[1_000];
        int once = 0;
        for (int i = 0; i < 1_000; i++) {
            int rank = x.dealt();
            once += rank >= 0 && rank < 1_000 && !seen[rank] ? 1 : 0;
            seen[Math.max(0, Math.min(999, rank))] = true;
        }
        due("each once", once, 1_000);

        sentence("44", "NONE: all were, there is no DEAL.");
        due("all were", x.dealt(), -1);
        due("all were still", x.dealt(), -1);
        due("no DEAL", new GrownKinds().dealt(), -1);
        due("no DEAL", words().dealt(), -1);
        due("deal", x.deal(1, 0, 1, 0), 1_000);
        due("anew", x.anew(), 0);
        due("no DEAL any more", x.dealt(), -1);
    }

    private static void left() {
        sentence("45", "How many are left.");
        GrownKinds x = words();
        due("deal", x.deal(0, 2, 3, 7), 12);
        for (int i = 12; i > 0; i--) {
            due("left", x.left(), i);
            due("left, told twice", x.left(), i);
            holds("one is dealt", x.dealt() >= 20_000);
        }
        due("all were", x.left(), 0);
        due("dealt", x.dealt(), -1);
        due("not below 0", x.left(), 0);

        sentence("45", "0: there is no DEAL.");
        due("a new object", new GrownKinds().left(), 0);
        due("a new GRAMMAR", words().left(), 0);
        due("deal", x.deal(0, 2, 3, 7), 12);
        due("takes", x.takes(1, 0), 0);
        due("no DEAL any more", x.left(), 0);
    }

    // ---- acts

    private static GrownKinds acting() {
        return Kit.of("grammar most 2 a b;a=" + TEN + ";b=a or atom x with a;");
    }

    private static void takes() {
        sentence("46", "A TERM of a KIND is OFF: how many of its TERMS are not.");
        GrownKinds x = acting();
        for (int term = 9; term >= 0; term--) {
            due("takes", x.takes(0, term), term);
            due("things(1, 0)", x.things(1, 0), term);
        }
        x = acting();
        due("takes", x.takes(1, 1), 1);
        due("things(1, 1)", x.things(1, 1), 0);
        due("things(1, 0)", x.things(1, 0), 10);
        due("takes", x.takes(1, 0), 0);
        due("things(1, 0)", x.things(1, 0), 0);
        due("another KIND", x.takes(0, 0), 9);
        for (String text : States.GRAMMARS) {
            States.afterTakes(text);
        }

        sentence("46", "-2: there are none such;");
        noKind(kind -> acting().takes(kind, 0));
        for (int term : new int[] {-1, 2, 9, 10, MAX, MIN}) {
            due("term " + term, acting().takes(1, term), -2);
        }
        due("term 10", acting().takes(0, 10), -2);
        due("a KIND without a LINE", Kit.of("grammar most 2 a;").takes(0, 0), -2);
        noGrammar(kind -> new GrownKinds().takes(kind, 0));

        sentence("46", "-5, and nothing happens: it is OFF, there were 10 acts.");
        x = acting();
        due("takes", x.takes(0, 3), 9);
        due("it is OFF", x.takes(0, 3), -5);
        due("acts", x.count(4), 1);
        due("off", x.off(0), 8);
        due("undo", x.undo(), 0);
        due("it is not", x.takes(0, 3), 9);
        for (int term = 4; term < 10; term++) {
            due("takes", x.takes(0, term), 12 - term);
        }
        due("takes", x.takes(1, 0), 1);
        due("takes", x.takes(1, 1), 0);
        due("the tenth", x.takes(0, 0), 2);
        due("acts", x.count(4), 10);
        due("the eleventh", x.takes(0, 1), -5);
        due("acts", x.count(4), 10);
        due("off", x.off(0), 1 + 1016);
        due("things", x.things(0, 0), 2);
        due("none such, of ten acts", x.takes(1, 2), -2);
        due("undo", x.undo(), 9);
        due("the tenth again", x.takes(0, 1), 2);
    }

    private static void undo() {
        sentence("47", "The latest act is taken back: how many there are.");
        GrownKinds x = acting();
        due("takes", x.takes(0, 3), 9);
        due("takes", x.takes(1, 0), 1);
        due("takes", x.takes(0, 1), 8);
        due("undo", x.undo(), 2);
        due("off", x.off(0), 8);
        due("off", x.off(1), 1);
        due("undo", x.undo(), 1);
        due("off", x.off(1), 0);
        due("off", x.off(0), 8);
        due("things", x.things(1, 0), 9);
        due("undo", x.undo(), 0);
        due("off", x.off(0), 0);
        due("things", x.things(1, 0), 10);
        due("takes", x.takes(0, 9), 9);
        due("acts", x.count(4), 1);
        for (int term = 0; term < 9; term++) {
            due("takes", x.takes(0, term), 8 - term);
        }
        for (String text : States.GRAMMARS) {
            States.afterUndo(text);
        }
        due("undo of ten", x.undo(), 9);
        due("off", x.off(0), 1023 - 256);

        sentence("47", "-2: there is no GRAMMAR;");
        due("undo", new GrownKinds().undo(), -2);
        due("grammar of nothing", Kit.grammar(x, ""), 0);
        due("undo", x.undo(), -2);

        sentence("47", "-5: there is none.");
        x = acting();
        due("undo", x.undo(), -5);
        due("takes", x.takes(0, 0), 9);
        due("undo", x.undo(), 0);
        due("undo", x.undo(), -5);
        due("acts", x.count(4), 0);
        due("takes", x.takes(0, 0), 9);
        due("grammar", Kit.grammar(x, TREES), 3);
        due("undo: of another GRAMMAR", x.undo(), -5);
    }

    private static void anew() {
        sentence("48", "All are: how many there were.");
        GrownKinds x = acting();
        due("none", x.anew(), 0);
        for (int term = 0; term < 10; term++) {
            due("takes", x.takes(0, term), 9 - term);
        }
        due("things", x.things(1, 0), 0);
        due("ten", x.anew(), 10);
        due("off", x.off(0), 0);
        due("acts", x.count(4), 0);
        due("things", x.things(1, 0), 10);
        due("none then", x.anew(), 0);
        for (String text : States.GRAMMARS) {
            States.afterAnew(text);
        }
        due("takes", x.takes(1, 0), 1);
        due("takes", x.takes(0, 5), 9);
        due("two", x.anew(), 2);
        due("off", x.off(0), 0);
        due("off", x.off(1), 0);
        due("undo", x.undo(), -5);

        sentence("48", "-2 likewise.");
        due("anew", new GrownKinds().anew(), -2);
        due("grammar of nothing", Kit.grammar(x, ""), 0);
        due("anew", x.anew(), -2);
    }
}
