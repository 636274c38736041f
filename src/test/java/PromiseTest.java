/** Each promise by its number: ordinary inputs, the edges that the document names, wrong inputs. */
public final class PromiseTest {
    private static final int MIN = Integer.MIN_VALUE;
    private static final int MAX = Integer.MAX_VALUE;
    private static final String TREES = "grammar most 4 tree wood;tree=atom a with wood;wood=bag tree;";
    private static final String BEADS = "grammar most 6 bead neck;bead=atom b or atom w;neck=ring bead;";
    private static final String[] NO_KIND = {"-1", "2", "6", "2147483647", "-2147483648"};

    private PromiseTest() {
    }

    private static void due(String call, long got, long want) {
        Kit.due(call, got, want);
    }

    /** 1 and, without a GRAMMAR, all others. */
    private static void newObject() {
        GrownKinds x = new GrownKinds();
        due("1 NONE", GrownKinds.NONE, -1);
        for (int what = 0; what <= 5; what++) {
            due("1 count " + what, x.count(what), 0);
        }
        due("5 fault 0", x.fault(0), 0);
        due("5 fault 1", x.fault(1), -1);
        due("5 fault 2", x.fault(2), -1);
        due("14 blank", x.blank(), -2);
        due("24 idle", x.idle(), -2);
        due("33 told 0", x.told(0), -1);
        due("33 told 1", x.told(1), -1);
        due("44 dealt", x.dealt(), -1);
        due("45 left", x.left(), 0);
        due("47 undo", x.undo(), -2);
        due("48 anew", x.anew(), -2);
        noKind(x, 0);
        due("4 grammar of nothing", x.grammar(), 0);
        noKind(x, 0);
    }

    /** Every call that names a KIND answers -2 if there is none such. */
    private static void noKind(GrownKinds x, int kind) {
        String at = " of kind " + kind;
        due("7 terms" + at, x.terms(kind), -2);
        due("8 off" + at, x.off(kind), -2);
        due("9 letters" + at, x.letters(kind), -2);
        due("10 uses" + at, x.uses(kind), -2);
        due("11 reaches" + at, x.reaches(kind), -2);
        due("12 empty" + at, x.empty(kind), -2);
        due("13 leans" + at, x.leans(kind), -2);
        due("15 least" + at, x.least(kind), -2);
        due("16 things" + at, x.things(kind, 0), -2);
        due("17 upto" + at, x.upto(kind, 0), -2);
        due("18 labelled" + at, x.labelled(kind, 0), -2);
        due("19 first" + at, x.first(kind, 1), -2);
        due("20 marked" + at, x.marked(kind, 0, 0, 0), -2);
        due("21 by" + at, x.by(kind, 0, 0), -2);
        due("22 without" + at, x.without(kind, 0, 0, 0), -2);
        due("22 without of" + at, x.without(0, 0, kind, 0), -2);
        due("23 hangs" + at, x.hangs(kind, 0), -2);
        due("25 length" + at, x.length(kind, 0, 0), -2);
        due("26 sign" + at, x.sign(kind, 0, 0, 0), -2);
        due("27 deep" + at, x.deep(kind, 0, 0), -2);
        due("28 atoms" + at, x.atoms(kind, 0, 0, 0), -2);
        due("29 term" + at, x.term(kind, 0, 0), -2);
        due("30 symmetries" + at, x.symmetries(kind, 0, 0), -2);
        due("31 labels" + at, x.labels(kind, 0, 0), -2);
        due("32 tells" + at, x.tells(kind), -2);
        due("34 shared" + at, x.shared(kind, 0, 0), -2);
        due("34 shared with" + at, x.shared(0, kind, 0), -2);
        due("35 deepest" + at, x.deepest(kind, 0), -2);
        due("36 fullest" + at, x.fullest(kind, 0, 0), -2);
        due("37 stiffest" + at, x.stiffest(kind, 0), -2);
        due("38 chance" + at, x.chance(kind, 0, 0, 0), -2);
        due("39 mean" + at, x.mean(kind, 0, 0, 0), -2);
        due("40 boxed" + at, x.boxed(kind, 0, 0), -2);
        due("41 bits" + at, x.bits(kind, 0, 0), -2);
        due("42 drawn" + at, x.drawn(kind, 0, 0, 0, 0), -2);
        due("43 deal" + at, x.deal(kind, 0, 0, 0), -2);
        due("46 takes" + at, x.takes(kind, 0), -2);
    }

    /** Every call that names a size answers -2 for one that is not 0 .. MOST. */
    private static void noSize(GrownKinds x, int n) {
        String at = " of size " + n;
        due("16 things" + at, x.things(0, n), -2);
        due("17 upto" + at, x.upto(0, n), -2);
        due("18 labelled" + at, x.labelled(0, n), -2);
        due("20 marked" + at, x.marked(0, n, 0, 0), -2);
        due("21 by" + at, x.by(0, n, 0), -2);
        due("22 without" + at, x.without(0, 0, 0, n), -2);
        due("23 hangs" + at, x.hangs(0, n), -2);
        due("25 length" + at, x.length(0, n, 0), -2);
        due("26 sign" + at, x.sign(0, n, 0, 0), -2);
        due("27 deep" + at, x.deep(0, n, 0), -2);
        due("28 atoms" + at, x.atoms(0, n, 0, 0), -2);
        due("29 term" + at, x.term(0, n, 0), -2);
        due("30 symmetries" + at, x.symmetries(0, n, 0), -2);
        due("31 labels" + at, x.labels(0, n, 0), -2);
        due("34 shared" + at, x.shared(0, 0, n), -2);
        due("35 deepest" + at, x.deepest(0, n), -2);
        due("36 fullest" + at, x.fullest(0, n, 0), -2);
        due("37 stiffest" + at, x.stiffest(0, n), -2);
        due("38 chance" + at, x.chance(0, n, 0, 0), -2);
        due("39 mean" + at, x.mean(0, n, 0, 0), -2);
        due("40 boxed to" + at, x.boxed(0, 0, n), -2);
        due("40 boxed from" + at, x.boxed(0, n, 0), -2);
        due("41 bits to" + at, x.bits(0, 0, n), -2);
        due("41 bits from" + at, x.bits(0, n, n), -2);
        due("42 drawn to" + at, x.drawn(0, 0, n, 0, 0), -2);
        due("42 drawn from" + at, x.drawn(0, n, n, 0, 0), -2);
        due("43 deal to" + at, x.deal(0, 0, n, 0), -2);
        due("43 deal from" + at, x.deal(0, n, n, 0), -2);
    }

    private static void wrongInputs() {
        GrownKinds x = Kit.of(TREES);
        for (String kind : NO_KIND) {
            noKind(x, Integer.parseInt(kind));
        }
        for (int n : new int[] {-1, 5, 7, 8, MAX, MIN}) {
            noSize(x, n);
        }
        for (int letter : new int[] {-1, 26, MAX, MIN}) {
            due("20 letter", x.marked(0, 4, letter, 0), -2);
            due("28 letter", x.atoms(0, 4, 0, letter), -2);
            due("36 letter", x.fullest(0, 4, letter), -2);
            due("39 letter", x.mean(0, 4, letter, 0), -2);
        }
        for (int term : new int[] {-1, 1, 10, MAX, MIN}) {
            due("21 term", x.by(0, 4, term), -2);
            due("22 term", x.without(0, term, 0, 4), -2);
            due("38 term", x.chance(0, 4, term, 0), -2);
            due("46 term", x.takes(0, term), -2);
        }
        for (int what : new int[] {-1, 2, MAX, MIN}) {
            due("38 what", x.chance(0, 4, 0, what), -2);
            due("39 what", x.mean(0, 4, 0, what), -2);
            due("42 what", x.drawn(0, 1, 4, 0, what), -2);
            due("33 what", x.told(what), -1);
            due("6 what", x.count(what < 0 ? what : what + (what == 2 ? 4 : 0)), -1);
        }
        for (int rank : new int[] {-1, 4, MAX, MIN}) {
            due("25 rank", x.length(0, 4, rank), -2);
            due("26 rank", x.sign(0, 4, rank, 0), -2);
            due("27 rank", x.deep(0, 4, rank), -2);
            due("28 rank", x.atoms(0, 4, rank, 0), -2);
            due("29 rank", x.term(0, 4, rank), -2);
            due("30 rank", x.symmetries(0, 4, rank), -2);
            due("31 rank", x.labels(0, 4, rank), -2);
        }
        for (int k : new int[] {-1, 8, MAX, MIN}) {
            due("20 k", x.marked(0, 4, 0, k), -2);
        }
        due("20 k of 7", x.marked(0, 4, 0, 7), 0);
        due("20 letter 25", x.marked(0, 4, 25, 0), 4);
        due("4 acts none of these", x.count(4), 0);
    }

    /** 2, 3: the TAPE. */
    private static void tape() {
        GrownKinds x = new GrownKinds();
        for (int i = 1; i <= 20; i++) {
            due("2 feed", x.feed(-1, 0, 1, MAX, MIN), 20 * i);
            due("6 bytes", x.count(5), 20 * i);
        }
        due("2 feed above 400", x.feed(0, 0, 0, 0, 0), -1);
        due("6 bytes stay", x.count(5), 400);
        due("3 end 400", x.end(400), 400);
        due("3 end 401", x.end(401), -1);
        due("3 end below 0", x.end(-1), -1);
        due("3 end MIN", x.end(MIN), -1);
        due("6 bytes stay", x.count(5), 400);
        due("3 end 381", x.end(381), 381);
        due("2 feed to 401", x.feed(0, 0, 0, 0, 0), -1);
        due("3 end 380", x.end(380), 380);
        due("3 end 381 then", x.end(381), -1);
        due("2 feed to 400", x.feed(0, 0, 0, 0, 0), 400);
        due("3 end 0", x.end(0), 0);
        // the highest byte first: "gram" is 0x6772616d
        due("2 feed", x.feed(0x6772616d, 0x6d617220, 0x6d6f7374, 0x20332061, 0x3b20200a), 20);
        due("4 grammar", x.grammar(), 1);
        due("6 kinds", x.count(0), 1);
        due("6 tape is empty", x.count(5), 0);
    }

    /** 4 to 11. */
    private static void grammars() {
        GrownKinds x = Kit.of("grammar most 5 one two three none;"
            + "three=atom z with (atom a or row two with unit);two=one or atom b with three;one=unit with atom c;");
        int[] counts = {4, 5, 11, 4, 0, 0};
        for (int what = 0; what <= 5; what++) {
            due("6 count " + what, x.count(what), counts[what]);
        }
        due("6 count 6", x.count(6), -1);
        due("6 count -1", x.count(-1), -1);
        int[][] want = {{1, 1 << 2, 0, 0}, {2, 1 << 1, 5, 7}, {1, 1 << 25 | 1, 2, 7}, {0, 0, 0, 0}};
        for (int kind = 0; kind < 4; kind++) {
            due("7 terms " + kind, x.terms(kind), want[kind][0]);
            due("8 off " + kind, x.off(kind), 0);
            due("9 letters " + kind, x.letters(kind), want[kind][1]);
            due("10 uses " + kind, x.uses(kind), want[kind][2]);
            due("11 reaches " + kind, x.reaches(kind), want[kind][3]);
        }
        due("13 leans of two", x.leans(1), 1);
        due("14 blank", x.blank(), 8);
        due("46 takes", x.takes(1, 1), 1);
        due("8 off of two", x.off(1), 2);
        due("9 letters of two", x.letters(1), 0);
        due("10 uses of two", x.uses(1), 1);
        due("11 reaches of two", x.reaches(1), 1);
        due("11 reaches of three", x.reaches(2), 3);
        due("7 terms, OFF ones too", x.terms(1), 2);
        due("6 PARTS stay", x.count(2), 11);
        due("6 acts", x.count(4), 1);
        due("4 grammar in place of another", Kit.grammar(x, "grammar most 0 a;a=unit;"), 2);
        due("6 acts", x.count(4), 0);
        due("8 off", x.off(0), 0);
        due("4 no lines", Kit.grammar(x, ""), 0);
        due("6 lines", x.count(3), 0);
        due("6 most", x.count(1), 0);
        due("46 takes", x.takes(0, 0), -2);
    }

    /** 12, 13: EMPTY and LEANS, OFF TERMS aside. */
    private static void leaning() {
        GrownKinds x = Kit.of("grammar most 3 a b c d;a=b with c or d with d;b=unit or atom x;c=bag 1 d or bag d;"
            + "d=atom x or ring 2 d;");
        due("12 empty a", x.empty(0), 1);
        due("12 empty b", x.empty(1), 1);
        due("12 empty c", x.empty(2), 1);
        due("12 empty d", x.empty(3), 0);
        due("13 leans a", x.leans(0), 6);
        due("13 leans c", x.leans(2), 8);
        due("13 leans d: a ring of two", x.leans(3), 0);
        due("46 takes", x.takes(1, 0), 1);
        due("12 empty b", x.empty(1), 0);
        due("12 empty a", x.empty(0), 0);
        due("13 leans a: b is not EMPTY", x.leans(0), 2);
        due("46 takes", x.takes(2, 1), 1);
        due("13 leans a: c is not EMPTY", x.leans(0), 0);
        due("13 leans c: bag 1", x.leans(2), 8);
        due("48 anew", x.anew(), 2);
        due("13 leans a", x.leans(0), 6);
    }

    /** 14 to 24. */
    private static void numbers() {
        GrownKinds x = Kit.of(BEADS);
        long[] necks = {0, 2, 3, 4, 6, 8, 14};
        long up = 0;
        for (int n = 0; n <= 6; n++) {
            up += necks[n];
            due("16 things " + n, x.things(1, n), necks[n]);
            due("17 upto " + n, x.upto(1, n), up);
        }
        due("14 blank", x.blank(), 0);
        due("15 least", x.least(1), 1);
        due("18 labelled", x.labelled(1, 3), 16);
        due("19 first 1", x.first(1, 1), 1);
        due("19 first 5", x.first(1, 5), 4);
        due("19 first 14", x.first(1, 14), 6);
        due("19 first 15", x.first(1, 15), -1);
        due("19 first 1e12", x.first(1, 1_000_000_000_000L), -1);
        due("19 first above", x.first(1, 1_000_000_000_001L), -2);
        due("19 first 0", x.first(1, 0), -2);
        due("19 first below", x.first(1, Long.MIN_VALUE), -2);
        long[] blacks = {1, 1, 3, 4, 3, 1, 1, 0};
        for (int k = 0; k <= 7; k++) {
            due("20 marked " + k, x.marked(1, 6, 1, k), blacks[k]);
            due("20 marked by a letter that is not there " + k, x.marked(1, 6, 0, k), k == 0 ? 14 : 0);
        }
        due("21 by", x.by(0, 1, 1), 1);
        due("21 by", x.by(0, 2, 1), 0);
        due("22 without", x.without(0, 0, 1, 6), 1);
        due("22 nothing happens by it", x.things(1, 6), 14);
        due("22 nothing happens by it", x.off(0), 0);
        due("23 hangs: without all of it", x.hangs(1, 6), 10);
        due("23 hangs: the first of two", x.hangs(0, 1), 0);
        due("23 hangs: no THING at all", x.hangs(0, 2), -1);
        due("46 takes", x.takes(0, 0), 1);
        due("21 by one that is OFF", x.by(0, 1, 0), 0);
        due("22 without one that is OFF", x.without(0, 0, 1, 6), 1);
        due("22 without both", x.without(0, 1, 1, 6), 0);
        due("23 hangs", x.hangs(0, 1), 1);
        due("24 idle", x.idle(), 0);
        due("46 takes", x.takes(0, 1), 0);
        due("24 idle: not OFF ones", x.idle(), 1);
        due("14 blank", x.blank(), 3);
        due("15 least", x.least(1), -1);
    }

    /** Above a million millions. */
    private static void largeNumbers() {
        String ten = "unit or unit or unit or unit or unit or unit or unit or unit or unit or unit";
        GrownKinds x = Kit.of("grammar most 7 u v w;u=" + ten + ";v=u with u with u with u with u with u;w=v with v with u with atom a;");
        due("16 exact", x.things(1, 0), 1_000_000);
        due("16 above", x.things(2, 1), 1_000_000_000_000L);
        due("17 above", x.upto(2, 7), 1_000_000_000_000L);
        due("18 above", x.labelled(2, 1), 1_000_000_000_000L);
        due("20 above", x.marked(2, 1, 0, 1), 1_000_000_000_000L);
        due("21 above", x.by(2, 1, 0), 1_000_000_000_000L);
        due("19 first", x.first(2, 1_000_000_000_000L), 1);
        // 9 ^ 13 is above it, too: as told nothing is fewer
        due("22 without", x.without(0, 0, 2, 1), 1_000_000_000_000L);
        due("23 hangs: fewest as told", x.hangs(2, 1), 10);
        due("40 boxed", x.boxed(2, 0, 7), 1_000_000_000_000L);
        due("41 bits", x.bits(2, 0, 7), -3);
        due("41 bits of a million", x.bits(1, 0, 7), 20);
        due("42 drawn of a million", x.drawn(1, 0, 7, 999_999, 1), 999_999);
        due("42 drawn above", x.drawn(1, 0, 7, 1_000_000, 1), -1);
        due("42 drawn by a second group: there is none of 20 bits", x.drawn(1, 0, 7, 1_000_000 | 5 << 20, 1), -1);
        due("25 not LISTED", x.length(2, 1, 0), -3);
        GrownKinds y = Kit.of("grammar most 1 u v;u=" + ten + ";v=u with u with u with u with u with u or unit;");
        due("16 a million and one", y.things(1, 0), 1_000_001);
        due("41 bits", y.bits(1, 0, 1), -3);
        due("42 drawn", y.drawn(1, 0, 1, 0, 0), -3);
        due("43 deal", y.deal(1, 0, 1, 0), -3);
    }

    /** 25 to 31. */
    private static void spelling() {
        GrownKinds x = Kit.of(TREES);
        Kit.spelledAs("IV trees", x, 0, 4, "a{a{}a{}a{}}", "a{a{a{}}a{}}", "a{a{a{}a{}}}", "a{a{a{a{}}}}");
        Kit.spelledAs("IV wood", x, 1, 2, "{a{}a{}}", "{a{a{}}}");
        due("25 length", x.length(0, 4, 3), 12);
        due("26 sign", x.sign(0, 4, 3, 11), '}');
        due("26 sign behind", x.sign(0, 4, 3, 12), -1);
        due("26 sign far behind", x.sign(0, 4, 3, MAX), -1);
        due("26 sign below", x.sign(0, 4, 3, -1), -2);
        due("27 deep", x.deep(0, 4, 3), 4);
        due("28 atoms", x.atoms(0, 4, 3, 0), 4);
        due("30 symmetries", x.symmetries(0, 4, 0), 6);
        due("31 labels", x.labels(0, 4, 0), 4);
        x = Kit.of("grammar most 3 all;all=row 2 (atom a or unit with atom b) or bag 2 (atom a or atom b) or set 2 (atom a or atom b)"
            + " or ring 3 (atom a or atom b) or unit with atom c with (atom d);");
        Kit.spelledAs("VI all", x, 0, 2, "0[0a0a]", "0[0a1-b]", "0[1-b0a]", "0[1-b1-b]", "1{0a0a}", "1{1b0a}", "1{1b1b}",
            "2<1b0a>", "4-cd");
        Kit.spelledAs("VI rings", x, 0, 3, "3(0a0a0a)", "3(0a0a1b)", "3(0a1b1b)", "3(1b1b1b)");
        due("29 term", x.term(0, 2, 8), 4);
        due("27 deep of no sequence", x.deep(0, 2, 8), 0);
        due("30 symmetries of a row", x.symmetries(0, 2, 0), 1);
        due("30 symmetries of a bag", x.symmetries(0, 2, 4), 2);
        due("30 symmetries of a set", x.symmetries(0, 2, 7), 1);
        due("30 symmetries of a ring", x.symmetries(0, 3, 0), 3);
        due("31 labels of a ring", x.labels(0, 3, 0), 2);
        // the digit stays if but one TERM is left
        for (int term = 0; term < 4; term++) {
            due("46 takes", x.takes(0, term), 4 - term);
        }
        Kit.spelledAs("VI OFF", x, 0, 2, "4-cd");
        due("29 term", x.term(0, 2, 0), 4);
    }

    /** LISTED: 200 THINGS are, 201 are not. */
    private static void listed() {
        String two = "unit or unit";
        String five = "unit or unit or unit or unit or unit";
        GrownKinds x = Kit.of("grammar most 1 a b;a=(" + two + ") with (" + two + ") with (" + two + ") with (" + five + ") with b;b=" + five + ";");
        due("16 two hundred", x.things(0, 0), 200);
        due("25 LISTED", x.length(0, 0, 199), 10);
        due("25 behind the last", x.length(0, 0, 200), -2);
        due("35 LISTED", x.deepest(0, 0), 0);
        due("34 LISTED", x.shared(0, 0, 0), 200);
        due("32 LISTED", Kit.tells(x, 0, "1-1-1-4-4-"), 199);
        x = Kit.of("grammar most 1 a b c;a=c or unit;c=(" + two + ") with (" + two + ") with (" + two + ") with (" + five + ") with b;b=" + five + ";");
        due("16 two hundred and one", x.things(0, 0), 201);
        due("25", x.length(0, 0, 0), -3);
        due("25 ahead of the RANK", x.length(0, 0, -1), -3);
        due("25 ahead of the RANK", x.length(0, 0, 201), -3);
        due("26", x.sign(0, 0, 0, 0), -3);
        due("26 behind i", x.sign(0, 0, 0, -1), -2);
        due("27", x.deep(0, 0, 0), -3);
        due("28", x.atoms(0, 0, 0, 0), -3);
        due("28 behind the letter", x.atoms(0, 0, 0, 26), -2);
        due("29", x.term(0, 0, 0), -3);
        due("30", x.symmetries(0, 0, 0), -3);
        due("31", x.labels(0, 0, 0), -3);
        due("34", x.shared(0, 1, 0), -3);
        due("35", x.deepest(0, 0), -3);
        due("36", x.fullest(0, 0, 0), -3);
        due("37", x.stiffest(0, 0), -3);
        due("38", x.chance(0, 0, 0, 0), -3);
        due("39", x.mean(0, 0, 0, 0), -3);
        due("32", Kit.tells(x, 0, "1-"), -3);
        due("32 none", Kit.tells(x, 0, "2-"), -4);
        due("33 ahead of any", x.told(0), -1);
        due("25 of the other one", x.length(2, 0, 199), 10);
        due("34 the other KIND need not be LISTED", x.shared(2, 0, 0), 0);
    }

    /** 32, 33. */
    private static void telling() {
        GrownKinds x = Kit.of("grammar most 6 b p q r one;"
            + "b=atom b or atom w;p=bag b;q=set b or set r;r=ring b;one=atom x with row b;");
        due("32 a bag", Kit.tells(x, 1, "{1w0b}"), 1);
        due("32 a bag in another order", Kit.tells(x, 1, "{0b1w}"), 1);
        due("33 size", x.told(0), 2);
        due("33 rank", x.told(1), 1);
        due("32 a set", Kit.tells(x, 2, "0<0b1w>"), 0);
        due("32 two alike", Kit.tells(x, 2, "0<0b0b>"), -4);
        due("32 rings alike wherever begun", Kit.tells(x, 2, "1<(0b0b1w)(0b1w0b)>"), -4);
        due("32 rings not alike", Kit.tells(x, 2, "1<(0b1w1w)(0b1w0b)>") >= 0 ? 1 : 0, 1);
        due("33 size", x.told(0), 6);
        due("32 a ring", Kit.tells(x, 3, "(1w0b0b1w0b)"), Kit.tells(x, 3, "(0b0b1w0b1w)"));
        due("32 a ring is not turned over", Kit.tells(x, 3, "(0b0b1w0b1w1w)") == Kit.tells(x, 3, "(1w1w0b1w0b0b)") ? 1 : 0, 0);
        due("32 an empty ring", Kit.tells(x, 3, "()"), -4);
        due("32 an empty bag", Kit.tells(x, 1, "{}"), 0);
        due("33 size", x.told(0), 0);
        due("32 nothing", Kit.tells(x, 1, ""), -4);
        due("32 too large", Kit.tells(x, 1, "{0b0b0b0b0b0b0b}"), -4);
        due("32 one more sign", Kit.tells(x, 1, "{}}"), -4);
        due("32 one sign less", Kit.tells(x, 1, "{0b"), -4);
        due("32 a blank", Kit.tells(x, 1, "{ }"), -4);
        due("32 a row in order", Kit.tells(x, 4, "x[1w0b]"), 2);
        due("33 stays", x.told(1), 2);
        due("46 takes", x.takes(0, 1), 1);
        due("33 stays", x.told(1), 2);
        due("32 OFF", Kit.tells(x, 4, "x[1w0b]"), -4);
        due("32 not OFF", Kit.tells(x, 4, "x[0b0b]"), 0);
        Kit.tape(x, "x[0b]");
        due("32 no KIND", x.tells(5), -2);
        due("32 the TAPE stays", x.count(5), 5);
        due("32 then", x.tells(4), 0);
        due("32 the TAPE is empty", x.count(5), 0);
        Kit.grammar(x, "");
        due("33 stays without a GRAMMAR", x.told(0), 2);
        // left recursion that never comes to an end
        x = Kit.of("grammar most 5 a b;a=b with atom x;b=a with unit;");
        due("32 no end", Kit.tells(x, 0, "xxxxxxxxxxxxxxxxxxxxxxxxxxxxxxxxxxxxxxxx"), -4);
        due("32 no end", Kit.tells(x, 1, "--------"), -4);
    }

    /** 32, 34: a text of 40 bytes is read, one of 41 is not. */
    private static void longTexts() {
        String units = "unit" + " with unit".repeat(9);
        GrownKinds x = Kit.of("grammar most 2 a b c;a=" + units + ";b=a with a with a with a;c=b or atom x with b;");
        String forty = "-".repeat(40);
        due("25 forty", x.length(1, 0, 0), 40);
        due("32 forty", Kit.tells(x, 1, forty), 0);
        due("32 forty-one", Kit.tells(x, 2, "0" + forty), -4);
        due("34 forty", x.shared(1, 1, 0), 1);
        due("25 forty-one", x.length(2, 0, 0), 41);
        due("34 forty-one, as tells() has it", x.shared(2, 2, 0), 0);
        due("26 its last sign", x.sign(2, 0, 0, 40), '-');
        // a text longer than any TAPE
        String four = "% with % with % with %;";
        x = Kit.of("grammar most 7 a b c d e f;a=" + four.replace("%", "b") + "b=" + four.replace("%", "c")
            + "c=" + four.replace("%", "d") + "d=" + four.replace("%", "e") + "e=" + four.replace("%", "unit") + "f=row 7 (atom x with a);");
        due("25 long", x.length(0, 0, 0), 1024);
        due("25 longer", x.length(5, 7, 0), 7 * 1025 + 2);
        due("26 its last sign", x.sign(5, 7, 0, 7 * 1025 + 1), ']');
        due("26 behind", x.sign(5, 7, 0, 7 * 1025 + 2), -1);
        due("35", x.deepest(5, 7), 0);
    }

    /** 27: twelve rows for each of seven atoms, and as many brackets, which are not spelled. */
    private static void deepThings() {
        String six = "row 1 ".repeat(6);
        GrownKinds x = Kit.of("grammar most 7 a b c;a=" + six + "b;b=" + six + "c;c=atom x with a or atom y;");
        due("16", x.things(0, 7), 1);
        due("27 deep", x.deep(0, 7, 0), 84);
        due("25 length", x.length(0, 7, 0), 84 * 2 + 7 * 2);
        due("26 its innermost sign", x.sign(0, 7, 0, 97), 'y');
        due("26 behind that", x.sign(0, 7, 0, 98), ']');
        due("35 deepest", x.deepest(0, 7), 0);
        due("28 atoms", x.atoms(0, 7, 0, 23), 6);
        due("34 too long to be told", x.shared(0, 0, 7), 0);
        due("34 short enough", x.shared(0, 0, 1), 1);
        x = Kit.of("grammar most 7 a b c;a=((((((b))))));b=((((((c))))));c=atom x with a or unit;");
        due("16", x.things(0, 7), 1);
        due("25 length", x.length(0, 7, 0), 16);
        due("27 deep", x.deep(0, 7, 0), 0);
        due("32", Kit.tells(x, 0, "0x0x0x0x0x0x0x1-"), 0);
        due("33", x.told(0), 7);
        due("32 too large", Kit.tells(x, 0, "0x0x0x0x0x0x0x0x1-"), -4);
        due("32 no end", Kit.tells(x, 0, "0x".repeat(20)), -4);
    }

    /** 34 to 39. */
    private static void lists() {
        GrownKinds x = Kit.of("grammar most 4 a b c;a=atom x or row 2 atom x or bag (atom x or atom y);"
            + "b=atom x or unit or bag (atom x or atom y);c=bag 2 (atom x or atom y);");
        due("34 shared", x.shared(0, 1, 2), 3);
        due("34 shared the other way", x.shared(1, 0, 2), 3);
        due("34 shared with itself", x.shared(0, 0, 2), x.things(0, 2));
        due("34 shared with none", x.shared(2, 0, 2), 0);
        due("34 of no THING", x.shared(2, 0, 1), 0);
        due("35 deepest", x.deepest(2, 2), 0);
        due("35 no THING", x.deepest(2, 1), -1);
        due("36 fullest", x.fullest(2, 2, 24), 2);
        due("36 all have none", x.fullest(2, 2, 0), 0);
        due("36 no THING", x.fullest(2, 1, 24), -1);
        due("37 stiffest: the first of several", x.stiffest(2, 2), 0);
        due("37 no THING", x.stiffest(2, 1), -1);
        due("38 above", x.chance(2, 2, 0, 0), 1);
        due("38 below", x.chance(2, 2, 0, 1), 1);
        due("38 no THING", x.chance(2, 1, 0, 0), -1);
        due("39 above", x.mean(2, 2, 24, 0), 1);
        due("39 below", x.mean(2, 2, 24, 1), 1);
        due("39 none above", x.mean(2, 2, 0, 0), 0);
        due("39 none below", x.mean(2, 2, 0, 1), 1);
        due("39 no THING", x.mean(2, 1, 24, 1), -1);
        x = Kit.of("grammar most 2 a;a=bag (atom x or atom y or atom z) or unit with atom x with atom x or atom y with atom x;");
        due("38 six of eight", x.chance(0, 2, 0, 0), 3);
        due("38 six of eight", x.chance(0, 2, 0, 1), 4);
        due("39 seven of eight", x.mean(0, 2, 23, 0), 7);
        due("39 seven of eight", x.mean(0, 2, 23, 1), 8);
        due("46 takes", x.takes(0, 0), 2);
        due("38 of one that is OFF", x.chance(0, 2, 0, 0), 0);
        due("38 of one that is OFF", x.chance(0, 2, 0, 1), 1);
        due("39 three of two", x.mean(0, 2, 23, 0), 3);
    }

    /** 40 to 42. */
    private static void boxes() {
        GrownKinds x = Kit.of(TREES);
        due("40", x.boxed(0, 0, 4), 8);
        due("40 one size", x.boxed(0, 3, 3), 2);
        due("40 low above high", x.boxed(0, 3, 2), -2);
        due("41 low above high", x.bits(0, 3, 2), -2);
        due("42 low above high", x.drawn(0, 3, 2, 0, 0), -2);
        due("43 low above high", x.deal(0, 3, 2, 0), -2);
        due("41", x.bits(0, 0, 4), 3);
        due("41 one THING", x.bits(0, 1, 1), 0);
        due("41 two", x.bits(0, 1, 2), 1);
        due("41 no THING", x.bits(0, 0, 0), -1);
        due("42 no THING", x.drawn(0, 0, 0, 0, 0), -1);
        due("42 one THING", x.drawn(0, 1, 1, 1_073_741_823, 0), 1);
        due("42 the largest word", x.drawn(0, 0, 4, 1_073_741_823, 1), 3);
        due("42 above the largest word", x.drawn(0, 0, 4, 1_073_741_824, 1), -2);
        due("42 a word below 0", x.drawn(0, 0, 4, -1, 1), -2);
        due("42 nothing is", x.drawn(0, 3, 4, 1_073_741_823, 1), -1);
        due("42 the tenth group", x.drawn(0, 3, 4, 1_073_741_823 & ~(7 << 27) | 1 << 27, 1), 1);
    }

    /** 43 to 45. */
    private static void deals() {
        GrownKinds x = Kit.of(TREES);
        due("43", x.deal(0, 3, 4, 2_000_000_000), 6);
        due("44: 2,000,000,000 modulo 8 is 0", x.dealt(), 30_000);
        due("45", x.left(), 5);
        due("43 seed above", x.deal(0, 3, 4, 2_000_000_001), -2);
        due("43 seed below", x.deal(0, 3, 4, -1), -2);
        due("45 the one there goes on", x.left(), 5);
        due("43 in place of another", x.deal(0, 1, 1, 7), 1);
        due("45", x.left(), 1);
        due("44", x.dealt(), 10_000);
        due("44 all were", x.dealt(), -1);
        due("45 all were", x.left(), 0);
        due("43 begins again", x.deal(0, 3, 4, 3), 6);
        due("46 not done", x.takes(0, 5), -2);
        due("47 not done", x.undo(), -5);
        due("45 goes on", x.left(), 6);
        due("48 without acts", x.anew(), 0);
        due("45 has ended", x.left(), 0);
        due("44 has ended", x.dealt(), -1);
        x.takes(0, 0);
        due("43 of no THING", x.deal(0, 0, 4, 0), 0);
        due("44 of no THING", x.dealt(), -1);
        due("43", x.deal(1, 0, 4, 0), 1);
        due("46 not done", x.takes(0, 0), -5);
        due("45 goes on", x.left(), 1);
        due("47", x.undo(), 0);
        due("45 has ended", x.left(), 0);
        due("43", x.deal(0, 3, 4, 0), 6);
        due("46", x.takes(1, 0), 0);
        due("45 has ended", x.left(), 0);
        x.anew();
        due("43", x.deal(0, 3, 4, 0), 6);
        due("4 with a FAULT", Kit.grammar(x, "?"), -4);
        due("45 goes on", x.left(), 6);
        due("4", Kit.grammar(x, TREES), 3);
        due("45 has ended", x.left(), 0);
        x.deal(0, 3, 4, 0);
        due("4 no lines", Kit.grammar(x, ""), 0);
        due("45 has ended", x.left(), 0);
        String ten = "unit or unit or unit or unit or unit or unit or unit or unit or unit or unit";
        x = Kit.of("grammar most 1 u v w;u=" + ten + ";v=u with u with u;w=v or unit;");
        due("43 a thousand", x.deal(1, 0, 1, 5), 1000);
        due("43 a thousand and one", x.deal(2, 0, 1, 5), -3);
        due("45 the one there goes on", x.left(), 1000);
        boolean[] seen = new boolean[1000];
        int twice = 0;
        for (int i = 0; i < 1000; i++) {
            int rank = x.dealt();
            twice += rank < 0 || rank > 999 || seen[rank] ? 1 : 0;
            seen[Math.max(0, Math.min(999, rank))] = true;
        }
        due("44 each once", twice, 0);
        due("44 all were", x.dealt(), -1);
    }

    /** 46 to 48. */
    private static void acts() {
        GrownKinds x = Kit.of("grammar most 2 a b;a=unit or unit or unit or unit or unit or unit;b=unit or a or unit or unit or unit or unit;");
        for (int term = 0; term < 5; term++) {
            due("46 takes a", x.takes(0, term), 5 - term);
            due("46 takes b", x.takes(1, term), 5 - term);
            due("6 acts", x.count(4), 2 * term + 2);
        }
        due("46 the eleventh", x.takes(0, 5), -5);
        due("46 OFF", x.takes(0, 0), -5);
        due("46 none such", x.takes(0, 6), -2);
        due("8 off a", x.off(0), 31);
        due("6 acts", x.count(4), 10);
        due("47 undo: of b", x.undo(), 9);
        due("8 off b", x.off(1), 15);
        due("8 off a", x.off(0), 31);
        due("46 another one", x.takes(0, 5), 0);
        due("16 things", x.things(0, 0), 0);
        due("12 empty", x.empty(0), 0);
        due("48 anew", x.anew(), 10);
        due("8 off a", x.off(0), 0);
        due("8 off b", x.off(1), 0);
        due("16 things", x.things(1, 0), 11);
        due("47 none", x.undo(), -5);
        due("48 none", x.anew(), 0);
        due("46 again", x.takes(1, 1), 5);
        due("16 things", x.things(1, 0), 5);
    }

    public static void main(String[] args) {
        newObject();
        wrongInputs();
        tape();
        grammars();
        leaning();
        numbers();
        largeNumbers();
        spelling();
        listed();
        telling();
        longTexts();
        deepThings();
        lists();
        boxes();
        deals();
        acts();
        Kit.finish("PromiseTest");
    }
}
