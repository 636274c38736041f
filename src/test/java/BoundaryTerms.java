/** The boundary cases of the Terms, I to VII, sentence by sentence. */
final class BoundaryTerms extends Sentences {
    private static final String[] TEN_WORDS = {"grammar", "most", "atom", "unit", "or", "with", "row", "bag", "set", "ring"};
    private static final String[] FOUR = {"row", "bag", "set", "ring"};

    private BoundaryTerms() {
    }

    static void all() {
        lines();
        exprs();
        bounds();
        tokens();
        names();
        faultPlaces();
        faultOne();
        faultTwo();
        faultThree();
        faultFour();
        sizes();
        sequences();
        withoutNumber();
        empty();
        leans();
        offTerms();
        order();
        orderOfSequences();
        cappedNumbers();
        listed();
        labelled();
        symmetries();
        spelled();
        boxes();
        deals();
        endOfDeal();
    }

    private static String repeat(String what, int times) {
        return what.repeat(times);
    }

    // ---- I

    private static void lines() {
        sentence("I", "GRAMMAR: LINE {LINE}.");
        sound("grammar most 3 a;", 1);
        sound("grammar most 3 a;a=unit;", 2);
        sound("grammar most 3 a b c d e f;a=unit;b=unit;c=unit;d=unit;e=unit;f=unit;", 7);

        sentence("I", "The first one: grammar most N NAME {NAME} ;");
        faulty("a=unit;", 1, 0);
        faulty("most 3 a;", 1, 0);
        faulty("grammar 3 a;", 1, 8);
        faulty("grammar most a;", 1, 13);
        faulty("grammar most 3;", 1, 14);
        faulty("grammar most 3 a", 1, 16);
        faulty("grammar most 3 a=unit;", 1, 16);
        due("one NAME", sound("grammar most 3 a;", 1).count(0), 1);
        due("two NAMES", sound("grammar most 3 a b;", 1).count(0), 2);

        sentence("I", "(MOST 0 .. 7; KINDS 0 .. 5 by their NAMES)");
        faulty("grammar most 8 a;", 2, 13);
        GrownKinds x = sound("grammar most 0 a;a=unit;", 2);
        due("count(1)", x.count(1), 0);
        due("things(0, 0)", x.things(0, 0), 1);
        due("things(0, 1)", x.things(0, 1), -2);
        x = sound("grammar most 7 a b c d e f;b=row atom x;f=atom a with b;", 3);
        due("count(1)", x.count(1), 7);
        due("things(5, 7)", x.things(5, 7), 1);
        due("things(5, 8)", x.things(5, 8), -2);
        due("things(6, 7)", x.things(6, 7), -2);
        due("uses(5), KINDS by the places of their NAMES", x.uses(5), 2);

        sentence("I", "All others: NAME = EXPR ;");
        faulty("grammar most 3 a;=unit;", 1, 17);
        faulty("grammar most 3 a;a unit;", 1, 19);
        faulty("grammar most 3 a;a=;", 1, 19);
        faulty("grammar most 3 a;a=unit", 1, 23);
        faulty("grammar most 3 a;a=unit;;", 1, 24);

        sentence("I", "(a KIND that has none yet; one without a LINE has no TERMS, no THINGS)");
        faulty("grammar most 3 a;a=unit;a=unit;", 2, 24);
        x = sound("grammar most 3 a b c d;b=a or c;c=row a;", 3);
        for (int kind = 0; kind <= 3; kind += 3) {
            due("terms(" + kind + ")", x.terms(kind), 0);
            for (int n = 0; n <= 3; n++) {
                due("things(" + kind + ", " + n + ")", x.things(kind, n), 0);
                due("labelled(" + kind + ", " + n + ")", x.labelled(kind, n), 0);
            }
        }
        due("things(1, 0): a row of none alone", x.things(1, 0), 1);
        due("things(1, 1)", x.things(1, 1), 0);
    }

    private static void exprs() {
        sentence("I", "EXPR: TERM {or TERM}, at most 10.");
        due("terms", sound("grammar most 3 a;a=unit;", 2).terms(0), 1);
        due("terms", sound("grammar most 3 a;a=" + TEN + ";", 2).terms(0), 10);
        faulty("grammar most 3 a;a=" + TEN + " or unit;", 3, 19 + 80);
        due("ten in brackets", sound("grammar most 3 a;a=(" + TEN + ") or unit;", 2).things(0, 0), 11);
        faulty("grammar most 3 a;a=(" + TEN + " or unit);", 3, 20 + 80);

        sentence("I", "TERM: PART {with PART}.");
        due("one PART", sound("grammar most 3 a;a=atom x;", 2).count(2), 1);
        due("24 PARTS", sound("grammar most 3 a;a=unit" + repeat(" with unit", 23) + ";", 2).count(2), 24);
        faulty("grammar most 3 a;a=with unit;", 1, 19);
        faulty("grammar most 3 a;a=unit with;", 1, 28);
        faulty("grammar most 3 a;a=unit unit;", 1, 24);

        sentence("I", "PART: atom L | unit | NAME | row [N] PART | bag [N] PART | set [N] PART | ring [N] PART | ( EXPR ).");
        GrownKinds x = sound("grammar most 3 a b;b=atom z;a=atom a or unit or b or row atom c or row 2 atom d or bag b or bag 1 b"
            + " or set b or set 3 b or ring b;", 3);
        due("PARTS", x.count(2), 1 + 3 + 7 * 2);
        due("PARTS in brackets", sound("grammar most 3 a;a=(ring 7 (atom x)) with ((unit));", 2).count(2), 7);
        faulty("grammar most 3 a;a=row;", 1, 22);
        faulty("grammar most 3 a;a=();", 1, 20);

        sentence("I", "L is a letter, N here 1 .. 7.");
        due("a", sound("grammar most 3 a;a=atom a;", 2).letters(0), 1);
        due("z", sound("grammar most 3 a;a=atom z;", 2).letters(0), 1 << 25);
        faulty("grammar most 3 a;a=atom 1;", 1, 24);
        faulty("grammar most 3 a;a=atom;", 1, 23);
        faulty("grammar most 3 a;a=(atom);", 1, 24);
        faulty("grammar most 3 a;a=atom", 1, 23);
        faulty("grammar most 3 a;a=atom A;", 1, 24);
        for (String four : FOUR) {
            int at = 20 + four.length();
            faulty("grammar most 3 a;a=" + four + " 0 atom x;", 2, at);
            sound("grammar most 3 a;a=" + four + " 1 atom x;", 2);
            sound("grammar most 3 a;a=" + four + " 7 atom x;", 2);
            faulty("grammar most 3 a;a=" + four + " 8 atom x;", 2, at);
        }
        due("a row of seven", sound("grammar most 7 a;a=row 7 atom x;", 2).things(0, 7), 1);
    }

    private static void bounds() {
        String eleven = "unit" + repeat(" with unit", 10);
        sentence("I", "At most 24 PARTS in all (those in others, too, each bracket is one besides those in it)");
        due("PARTS of all LINES", sound("grammar most 3 a b;a=" + eleven + ";b=" + eleven + " with (unit);", 3).count(2), 24);
        faulty("grammar most 3 a b;a=" + eleven + ";b=" + eleven + " with (unit or unit);", 3, 21 + 104 + 3 + 104 + 6 + 9);
        faulty("grammar most 3 a b;a=" + eleven + ";b=" + eleven + " with unit with (unit);", 3, 21 + 104 + 3 + 104 + 6 + 10 + 1);
        due("a row and what is in it", sound("grammar most 3 a b;a=" + eleven + ";b=" + eleven + " with row atom x;", 3).count(2), 24);
        faulty("grammar most 3 a b;a=" + eleven + ";b=" + eleven + " with row 1 row atom x;", 3, 21 + 104 + 3 + 104 + 6 + 10);

        sentence("I", "row, bag, set, ring, brackets stand in one another 6 deep at most.");
        due("six", sound("grammar most 3 a;a=row 1 bag 1 set 1 ring (row 2 atom x);", 2).things(0, 2), 1);
        faulty("grammar most 3 a;a=row 1 bag 1 set 1 ring (row 2 (atom x));", 3, 49);
        due("six brackets", sound("grammar most 3 a;a=((((((unit))))));", 2).things(0, 0), 1);
        faulty("grammar most 3 a;a=(((((((unit)))))));", 3, 25);
        for (String four : FOUR) {
            sound("grammar most 3 a;a=" + repeat(four + " 1 ", 6) + "atom x;", 2);
            faulty("grammar most 3 a;a=" + repeat(four + " 1 ", 7) + "atom x;", 3, 19 + 6 * (four.length() + 3));
        }
        due("side by side they are not in one another",
            sound("grammar most 3 a;a=" + repeat("(((((unit))))) with ", 3) + "unit;", 2).things(0, 0), 1);
        due("nor by a NAME", sound("grammar most 3 a b;a=((((((b))))));b=((((((unit))))));", 3).things(0, 0), 1);

        sentence("I", "TERMS of a KIND are those of its EXPR, from 0 (none in brackets).");
        GrownKinds x = sound("grammar most 3 a b;a=(unit or unit or unit);b=(unit or unit) or row (atom x or atom y);", 3);
        due("terms(0)", x.terms(0), 1);
        due("by(0, 0, 0)", x.by(0, 0, 0), 3);
        due("by(0, 0, 1)", x.by(0, 0, 1), -2);
        due("terms(1)", x.terms(1), 2);
        due("by(1, 0, 0)", x.by(1, 0, 0), 2);
        due("by(1, 1, 1)", x.by(1, 1, 1), 2);
        due("by(1, 0, 2)", x.by(1, 0, 2), -2);
        due("takes(0, 1)", x.takes(0, 1), -2);
        due("takes(0, 0)", x.takes(0, 0), 0);
    }

    private static void tokens() {
        sentence("I", "TOKENS, blanks (32, 10) aside, the longest: words (a .. z), numbers (digits), the signs = ; ( ) .");
        sound("grammar most 3 a;a=unit;", 2);
        sound("\n  grammar\nmost\n \n3\na\n;\na\n=\nunit\n;\n ", 2);
        sound("grammar most3a;a=row2atom x or(unit)or(unit);", 2);
        faulty("grammarmost 3 a;", 1, 0);
        faulty("grammar most 3 a;a=unitor unit;", 2, 19);
        faulty("grammar most 1 2 a;", 1, 15);
        faulty("grammar most 12 a;", 2, 13);
        due("zeros ahead", sound("grammar most 000000000000000000007 a;", 1).count(1), 7);
        faulty("grammar most 00000000000000000008 a;", 2, 13);
        for (int sign : new int[] {0, 9, 11, 13, 31, 33, '-', '*', '<', '>', ':', '/', '[', ']', '{', '}', '@', '`', 'A', 'Z', 127, 128, 160, 255}) {
            faulty("grammar most 3 a;a=" + (char) sign + "unit;", 1, 19);
        }
        for (String sign : new String[] {"=", ";", ")"}) {
            faulty("grammar most 3 a;a=" + sign + "unit;", 1, 19);
        }
    }

    private static void names() {
        sentence("I", "NAMES: words of at most 8 letters, none of grammar, most, atom, unit, or, with, row, bag, set, ring; none twice.");
        due("a word of eight", sound("grammar most 3 abcdefgh;abcdefgh=unit;", 2).things(0, 0), 1);
        faulty("grammar most 3 abcdefghi;", 2, 15);
        faulty("grammar most 3 a b abcdefghi;", 2, 19);
        due("a word of one", sound("grammar most 3 z;z=unit;", 2).things(0, 0), 1);
        for (String word : TEN_WORDS) {
            faulty("grammar most 3 " + word + ";", 1, 15);
            faulty("grammar most 3 a " + word + ";", 1, 17);
            String longer = word.length() < 8 ? word + "s" : "gramma";
            String shorter = word.substring(0, word.length() - 1);
            GrownKinds x = sound("grammar most 3 " + longer + " " + shorter + ";" + longer + "=unit;" + shorter + "=atom x with " + longer + ";", 3);
            due("things(1, 1)", x.things(1, 1), 1);
            for (int i = 0; i < word.length(); i++) {
                String other = word.substring(0, i) + (char) ((word.charAt(i) - 'a' + 1) % 26 + 'a') + word.substring(i + 1);
                x = sound("grammar most 3 a " + other + ";a=atom x or " + other + ";" + other + "=unit with unit;", 3);
                due("uses(0) of " + other, x.uses(0), 2);
                faulty("grammar most 3 a;a=" + other + " atom x;", 2, 19);
            }
        }
        faulty("grammar most 3 a a;", 2, 17);
        faulty("grammar most 3 ab a b ab;", 2, 22);
        due("NAMES that begin alike", sound("grammar most 3 a aa ab aab;aab=unit;", 2).things(3, 0), 1);
    }

    private static void faultPlaces() {
        sentence("I", "FAULTS, the first by its place (a TOKEN's first byte; the end's), of one place the least:");
        faulty("grammar most 9 a a;", 2, 13);
        faulty("grammar most 3 a a ?;", 2, 17);
        faulty("grammar most 3 a ? a;", 1, 17);
        faulty("grammar most 3 a;a=a with row 9 c;", 2, 30);
        faulty("grammar most 3 a;a=row 9 c;b=", 2, 23);
        faulty("  \n grammar\n most   88 a;", 2, 20);
        faulty("grammar most 3 abcdefghijklmnop;", 2, 15);
        faulty("grammar most 3 a;a=unit", 1, 23);
        faulty("grammar most 3 a;a=unit  \n ", 1, 27);
        faulty("grammar", 1, 7);
        faulty("grammar most 3 a b c d e f a;", 2, 27);
        faulty("grammar most 3 a b c d e f abcdefghi;", 2, 27);
        faulty("grammar most 3 a b c d e f most;", 1, 27);
        faulty("grammar most 3 a b c d e f 3;", 1, 27);
        faulty("grammar most 3 a;a=" + TEN + " or b;", 2, 99);
        faulty("grammar most 3 a;a=" + TEN + " or with;", 1, 99);
        String many = "grammar most 3 a;a=unit" + repeat(" with unit", 23);
        faulty(many + " with b;", 2, 17 + 2 + 4 + 230 + 6);
        faulty(many + " with or;", 1, 17 + 2 + 4 + 230 + 6);
        faulty(many + " with unit;", 3, 17 + 2 + 4 + 230 + 6);
        faulty("grammar most 3 a;a=((((((b))))));", 2, 25);
    }

    private static void faultOne() {
        sentence("I", "1 a TOKEN that is none, or can't stand there (where a NAME or a PART must stand any other word of those ten, too).");
        faulty("!", 1, 0);
        faulty("grammar most 3 a;a=unit!", 1, 23);
        faulty("grammar most 3 a;a=unit=", 1, 23);
        faulty("grammar most 3 a;a=unit)", 1, 23);
        faulty("grammar most 3 a;a=unit a;", 1, 24);
        faulty("grammar most 3 a;a=(unit;", 1, 24);
        faulty("grammar most 3 a;a=row 2 2 atom x;", 1, 25);
        faulty("grammar most 3 a;a=2 atom x;", 1, 19);
        faulty("grammar most 3 a;3=unit;", 1, 17);
        for (String word : TEN_WORDS) {
            faulty("grammar most 3 " + word + ";", 1, 15);
            faulty("grammar most 3 a;" + word + "=unit;", 1, 17);
        }
        for (String word : new String[] {"grammar", "most", "or", "with"}) {
            faulty("grammar most 3 a;a=" + word + ";", 1, 19);
            faulty("grammar most 3 a;a=row " + word + ";", 1, 23);
            faulty("grammar most 3 a;a=row 2 " + word + ";", 1, 25);
            faulty("grammar most 3 a;a=unit with " + word + ";", 1, 29);
            faulty("grammar most 3 a;a=unit or " + word + ";", 1, 27);
            faulty("grammar most 3 a;a=(" + word + ");", 1, 20);
        }
    }

    private static void faultTwo() {
        sentence("I", "2 a number out of its bounds;");
        faulty("grammar most 8 a;", 2, 13);
        faulty("grammar most 4294967296 a;", 2, 13);
        faulty("grammar most 18446744073709551619 a;", 2, 13);
        faulty("grammar most 3 a;a=row 0 atom x;", 2, 23);
        faulty("grammar most 3 a;a=row 00 atom x;", 2, 23);
        faulty("grammar most 3 a;a=row 8 atom x;", 2, 23);
        faulty("grammar most 3 a;a=row 4294967298 atom x;", 2, 23);

        sentence("I", "a NAME told of more than 8 letters, or told already;");
        faulty("grammar most 3 abcdefghi;", 2, 15);
        sound("grammar most 3 abcdefgh abcdefgi;", 1);
        faulty("grammar most 3 abcdefgh abcdefgh;", 2, 24);
        faulty("grammar most 3 a b c d e e;", 2, 25);

        sentence("I", "a word that must be a NAME and is not told, a KIND that has its LINE already;");
        faulty("grammar most 3 a;b=unit;", 2, 17);
        faulty("grammar most 3 a;aa=unit;", 2, 17);
        faulty("grammar most 3 a;a=b;", 2, 19);
        faulty("grammar most 3 a;a=abcdefghijk;", 2, 19);
        faulty("grammar most 3 a;a=row b;", 2, 23);
        faulty("grammar most 3 a;a=(b);", 2, 20);
        faulty("grammar most 3 a;a=unit;a=unit;", 2, 24);
        faulty("grammar most 3 a b;a=unit;b=unit;a=unit;", 2, 33);
        sound("grammar most 3 a b;b=unit;a=unit;", 3);

        sentence("I", "L a word of more letters.");
        faulty("grammar most 3 a;a=atom ab;", 2, 24);
        faulty("grammar most 3 ab;ab=atom ab;", 2, 26);
        faulty("grammar most 3 a;a=atom abcdefghijk;", 2, 24);
        faulty("grammar most 3 a;a=atom or atom x;", 2, 24);
        sound("grammar most 3 a;a=atom a;", 2);
    }

    private static void faultThree() {
        sentence("I", "3 a 7th NAME, 11th TERM, 25th PART, 7th deep one, at its first TOKEN.");
        sound("grammar most 3 a b c d e f;", 1);
        faulty("grammar most 3 a b c d e f g;", 3, 27);
        faulty("grammar most 3 a b c d e f g h;", 3, 27);
        sound("grammar most 3 a;a=" + TEN + ";", 2);
        faulty("grammar most 3 a;a=" + TEN + " or atom ab;", 3, 99);
        faulty("grammar most 3 a;a=" + TEN + " or (unit);", 3, 99);
        String many = "grammar most 3 a;a=unit" + repeat(" with unit", 22);
        sound(many + " with atom x;", 2);
        faulty(many + " with row atom x;", 3, 19 + 4 + 220 + 6 + 4);
        faulty(many + " with unit with row 9 atom x;", 3, 19 + 4 + 220 + 10 + 6);
        faulty(many + " with unit or unit;", 3, 19 + 4 + 220 + 10 + 4);
        sound("grammar most 3 a;a=(((((row atom x)))));", 2);
        faulty("grammar most 3 a;a=((((((row 9 atom x))))));", 3, 25);
        faulty("grammar most 3 a;a=row 1 row 1 row 1 row 1 row 1 row 1 (atom x);", 3, 55);
        sound("grammar most 3 a;a=row 1 row 1 row 1 row 1 row 1 row 1 atom x;", 2);
    }

    private static void faultFour() {
        sentence("I", "4 if there is none else: the first KIND (its place) that LEANS on itself, or on one that leads back to it so,"
            + " or in whose LINE a row, bag, set, ring is of an EMPTY PART.");
        faulty("grammar most 3 a;a=a;a=", 2, 21);
        faulty("grammar most 3 a;a=row unit or", 1, 30);
        faulty("grammar most 3 a;a=a;", 4, 0);
        faulty("grammar most 3 a b;b=b or unit;a=unit;", 4, 1);
        faulty("grammar most 3 a b;b=b;a=a;", 4, 0);
        faulty("grammar most 3 a b c;c=a;b=c;a=unit or b;", 4, 0);
        faulty("grammar most 3 a b c;a=b;b=c;c=b;", 4, 1);
        faulty("grammar most 3 a b c d e f;a=f;b=a;c=b;d=c;e=d;f=e;", 4, 0);
        sound("grammar most 3 a b;a=atom x with b;b=a;", 3);
        faulty("grammar most 3 a b;a=unit with b;b=a;", 4, 0);
        faulty("grammar most 3 a b;a=b with unit;b=(unit) with a;", 4, 0);
        faulty("grammar most 3 a;a=unit or ring 1 a;", 4, 0);
        faulty("grammar most 3 a;a=atom x or ring a;", 4, 0);
        sound("grammar most 3 a;a=atom x or ring 2 a;", 2);
        for (String four : FOUR) {
            sound("grammar most 3 a;a=" + four + " atom x;", 2);
            faulty("grammar most 3 a;a=" + four + " unit;", 4, 0);
            faulty("grammar most 3 a;a=" + four + " 2 unit;", 4, 0);
            faulty("grammar most 3 a;a=atom x with (atom y or " + four + " (atom x or unit));", 4, 0);
            faulty("grammar most 3 a b;a=unit;b=" + four + " a;", 4, 1);
            faulty("grammar most 3 a b;a=atom x or atom x with row atom y or unit;b=" + four + " 7 a;", 4, 1);
            faulty("grammar most 3 a b;a=" + four + " row atom x;", 4, 0);
            sound("grammar most 3 a b;b=" + four + " a;", 2);
            sound("grammar most 3 a b;b=" + four + " (atom x with a);a=unit;", 3);
        }
    }

    // ---- II

    private static void sizes() {
        sentence("II", "SIZES: an atom has 1, a unit 0, a THING those of all in it together.");
        GrownKinds x = Kit.of("grammar most 7 a b c d e f;a=atom x;b=unit;c=unit with atom x with (atom y with unit) with row 2 atom z;"
            + "d=c with c;e=bag 2 c;f=c with c with a with a with b;");
        for (int n = 0; n <= 7; n++) {
            due("an atom of size " + n, x.things(0, n), n == 1 ? 1 : 0);
            due("a unit of size " + n, x.things(1, n), n == 0 ? 1 : 0);
            due("four of size " + n, x.things(2, n), n == 4 ? 1 : 0);
            due("eight of size " + n, x.things(3, n), 0);
            due("eight of size " + n, x.things(4, n), 0);
            due("ten of size " + n, x.things(5, n), 0);
        }

        sentence("II", "THINGS of an EXPR are those of its TERMS (of which TERM it is makes it another THING)");
        x = Kit.of("grammar most 1 a b c;a=atom x or atom x or atom x;b=(unit or unit) with (unit or unit);c=a or (a or a);");
        due("three alike but for their TERMS", x.things(0, 1), 3);
        due("in brackets, too", x.things(1, 0), 4);
        due("in others, too", x.things(2, 1), 9);

        sentence("II", "of a TERM: one THING of each PART, in order");
        x = Kit.of("grammar most 2 a b c;a=atom x or atom y;b=a with a;c=b with a;");
        spelled(x, 1, 2, "0x0x", "0x1y", "1y0x", "1y1y");
        due("three of size 2", x.things(2, 2), 0);

        sentence("II", "NAME: those of that KIND.");
        // trees of two branches each, in order, in none, in none and unlike, and of three in a ring
        long[][] trees = {{0, 1, 1, 2, 5, 14, 42, 132}, {0, 1, 1, 1, 2, 3, 6, 11}, {0, 1, 0, 0, 0, 0, 0, 0}, {0, 1, 0, 1, 0, 1, 0, 2}};
        String[] branches = {"row 2 a", "bag 2 a", "set 2 a", "ring 3 a"};
        for (int i = 0; i < 4; i++) {
            GrownKinds tree = Kit.of("grammar most 7 a;a=atom x or " + branches[i] + ";");
            for (int n = 0; n <= 7; n++) {
                due("trees of " + branches[i] + " of size " + n, tree.things(0, n), trees[i][n]);
            }
        }
        x = Kit.of("grammar most 3 a b c;a=b;b=unit or atom x or row 2 atom x;");
        for (int n = 0; n <= 3; n++) {
            due("of size " + n, x.things(0, n), x.things(1, n));
        }
        due("of size 2", x.things(0, 2), 1);
        due("of size 3", x.things(0, 3), 0);
    }

    private static void sequences() {
        sentence("II", "row N: N THINGS of the PART in a row; bag N: N in no order; set N: in no order, no two alike;"
            + " ring N: N in a ring, wherever it is begun (not turned over).");
        String head = "grammar most 7 a b;a=atom x or atom y or atom z;b=";
        long[][] due = {{3, 9, 27, 81, 243, 729, 2187}, {3, 6, 10, 15, 21, 28, 36}, {3, 3, 1, 0, 0, 0, 0},
            {3, 6, 11, 24, 51, 130, 315}};
        for (int four = 0; four < 4; four++) {
            for (int many = 1; many <= 7; many++) {
                GrownKinds x = Kit.of(head + FOUR[four] + " " + many + " a;");
                for (int n = 0; n <= 7; n++) {
                    due(FOUR[four] + " " + many + " of size " + n, x.things(1, n), n == many ? due[four][many - 1] : 0);
                }
            }
        }
        long[] necks = {0, 8, 36, 176, 1044, 6560, 43800, 299600};
        GrownKinds x = Kit.of("grammar most 7 a b;a=" + TEN.replace("unit", "atom x").replaceFirst("atom x or atom x or ", "") + ";b=ring a;");
        for (int n = 1; n <= 7; n++) {
            due("rings of " + n + " of eight", x.things(1, n), necks[n]);
        }
        x = Kit.of(head + "ring 3 a;");
        spelled(x, 1, 3, "(0x0x0x)", "(0x0x1y)", "(0x0x2z)", "(0x1y1y)", "(0x1y2z)", "(0x2z1y)", "(0x2z2z)", "(1y1y1y)",
            "(1y1y2z)", "(1y2z2z)", "(2z2z2z)");
        x = Kit.of("grammar most 4 a b c d e;a=atom x or atom y with atom y;b=row 2 a;c=bag 2 a;d=set 2 a;e=ring 2 a;");
        due("rows of 2 of size 2 .. 4", x.upto(1, 4), 4);
        due("bags of 2 of size 2 .. 4", x.upto(2, 4), 3);
        due("sets of 2 of size 2 .. 4", x.upto(3, 4), 1);
        due("rings of 2 of size 2 .. 4", x.upto(4, 4), 3);
        x = Kit.of("grammar most 7 a;a=row 7 row 1 atom x;");
        due("a row of seven rows of one", x.things(0, 7), 1);
    }

    private static void withoutNumber() {
        sentence("II", "Without N: of any number, none, too (ring: at least one).");
        String head = "grammar most 7 a b;a=atom x or atom y;b=";
        long[][] due = {{1, 2, 4, 8, 16, 32, 64, 128}, {1, 2, 3, 4, 5, 6, 7, 8}, {1, 2, 1, 0, 0, 0, 0, 0}, {0, 2, 3, 4, 6, 8, 14, 20}};
        for (int four = 0; four < 4; four++) {
            GrownKinds x = Kit.of(head + FOUR[four] + " a;");
            for (int n = 0; n <= 7; n++) {
                due(FOUR[four] + " of size " + n, x.things(1, n), due[four][n]);
            }
        }
        String[] none = {"[]", "{}", "<>"};
        for (int four = 0; four < 3; four++) {
            spelled(Kit.of("grammar most 0 a b;b=" + FOUR[four] + " a;"), 1, 0, none[four]);
        }
        due("a ring of none", Kit.of("grammar most 0 a b;b=ring a;").things(1, 0), 0);
        spelled(Kit.of("grammar most 1 a;a=ring atom x;"), 0, 1, "(x)");
    }

    // ---- III

    private static void empty() {
        sentence("III", "EMPTY (in finitely many steps):");
        GrownKinds x = Kit.of("grammar most 3 a b c d e f;f=e or f with atom x;e=d;d=c;c=b;b=a;a=unit;");
        due("by six steps", x.empty(5), 1);
        x = Kit.of("grammar most 3 a b c d e f;a=b;b=c with c;c=(d);d=e or atom x;e=row f;f=atom y with e;");
        due("by five steps the other way", x.empty(0), 1);
        due("by none", x.empty(5), 0);
        x = Kit.of("grammar most 3 a b c d e f;a=b;b=((c));c=d;d=(e);e=f;f=unit;");
        due("by six steps the other way", x.empty(0), 1);
        x = Kit.of("grammar most 3 a b;a=atom x with b;b=a with b or a;");
        due("by no end of steps", x.empty(0), 0);
        due("by no end of steps", x.empty(1), 0);

        sentence("III", "unit; row, bag, set without N; the others of these four, if their PART is;");
        for (String four : new String[] {"unit", "row atom x", "bag atom x", "set atom x", "row a", "bag (atom x)", "set ring atom x"}) {
            due("empty " + four, Kit.of("grammar most 3 a b;b=" + four + ";").empty(1), 1);
        }
        for (String four : new String[] {"atom x", "row 1 atom x", "bag 7 atom x", "set 2 a", "ring atom x", "ring a", "ring 1 atom x"}) {
            due("empty " + four, Kit.of("grammar most 3 a b;b=" + four + ";").empty(1), 0);
        }
        // what is of an EMPTY one is EMPTY itself: so the outer one is of an EMPTY PART, too, and b's FAULT is the first
        for (String four : new String[] {"row 2 c", "bag 1 c", "set 3 c", "ring c", "ring 2 c"}) {
            faulty("grammar most 3 b a c;b=row 2 a;a=" + four + ";c=unit;", 4, 0);
        }

        sentence("III", "NAME, if that KIND is; a TERM, if all its PARTS are; an EXPR (a KIND), if one of its TERMS is.");
        x = Kit.of("grammar most 3 a b c d e f;a=unit;b=a;c=d;d=atom x;e=unit with a with bag d;f=unit with a with d;");
        due("empty NAME", x.empty(1), 1);
        due("empty NAME", x.empty(2), 0);
        due("empty TERM", x.empty(4), 1);
        due("empty TERM", x.empty(5), 0);
        due("empty TERM of 24", Kit.of("grammar most 3 a;a=unit" + repeat(" with unit", 23) + ";").empty(0), 1);
        due("empty TERM of 24, the last one not", Kit.of("grammar most 3 a;a=" + repeat("unit with ", 23) + "atom x;").empty(0), 0);
        due("empty TERM of 24, the first one not", Kit.of("grammar most 3 a;a=atom x" + repeat(" with unit", 23) + ";").empty(0), 0);
        x = Kit.of("grammar most 3 a b c d;a=atom x or atom y or unit;b=atom x or atom y;c=(atom x or unit);d=(atom x or atom y) with unit;");
        due("empty by the last TERM", x.empty(0), 1);
        due("empty by none", x.empty(1), 0);
        due("empty brackets", x.empty(2), 1);
        due("empty brackets", x.empty(3), 0);
        due("without a LINE", Kit.of("grammar most 3 a;").empty(0), 0);
    }

    private static void leans() {
        sentence("III", "A KIND LEANS on those that its EXPR does: an EXPR on those of its TERMS;");
        GrownKinds x = Kit.of("grammar most 3 a b c d e f;a=b or c or (d or e) or atom x with f;");
        due("leans of all TERMS", x.leans(0), 2 + 4 + 8 + 16);
        due("without a LINE", x.leans(1), 0);

        sentence("III", "a TERM on those of a PART, if all its other PARTS are EMPTY;");
        x = Kit.of("grammar most 3 a b c d e f;a=b with c with d;b=unit;c=unit with b;d=atom x;e=b with d with d;f=b with c with row d;");
        due("the one that is not EMPTY", x.leans(0), 8);
        due("two that are not", x.leans(4), 0);
        due("the last of 24", Kit.of("grammar most 3 a b;a=" + repeat("unit with ", 23) + "b;").leans(0), 2);
        due("the first of 24", Kit.of("grammar most 3 a b;a=b" + repeat(" with unit", 23) + ";").leans(0), 2);
        due("all are", x.leans(5), 2 + 4 + 8);

        sentence("III", "NAME: on that KIND;");
        due("leans", Kit.of("grammar most 3 a b;a=b;").leans(0), 2);
        due("not over it", Kit.of("grammar most 3 a b c;a=b;b=c;").leans(0), 2);

        sentence("III", "row, bag, set, ring: on those of its PART, if N is 1, or not told.");
        for (String four : FOUR) {
            due(four, Kit.of("grammar most 3 a b;a=" + four + " b;").leans(0), 2);
            due(four + " 1", Kit.of("grammar most 3 a b;a=" + four + " 1 b;").leans(0), 2);
            due(four + " 2", Kit.of("grammar most 3 a b;a=" + four + " 2 b;").leans(0), 0);
            due(four + " 7", Kit.of("grammar most 3 a b;a=" + four + " 7 b;").leans(0), 0);
            due(four + " in others", Kit.of("grammar most 3 a b;a=unit with " + four + " row 1 b;").leans(0), 2);
            due(four + " in two", Kit.of("grammar most 3 a b;a=unit with row 2 " + four + " 1 b;").leans(0), 0);
        }
    }

    private static void offTerms() {
        sentence("III", "TERMS that are OFF (acts) are not there, in all that is told of THINGS and here.");
        GrownKinds x = Kit.of("grammar most 3 a b c;a=unit or atom x or b;b=unit or atom y;c=row (atom z with a) or b;");
        due("things(2, 2)", x.things(2, 2), 2 + 4);
        due("takes", x.takes(0, 2), 2);
        due("things(0, 1)", x.things(0, 1), 1);
        due("things(2, 2)", x.things(2, 2), 1 + 1);
        due("leans", x.leans(0), 0);
        due("takes", x.takes(0, 0), 1);
        due("empty", x.empty(0), 0);
        due("things(0, 0)", x.things(0, 0), 0);
        due("labelled(0, 0)", x.labelled(0, 0), 0);
        due("marked(0, 1, 24, 1)", x.marked(0, 1, 24, 1), 0);
        spelled(x, 0, 1, "1x");
        due("tells one by a TERM that is OFF", Kit.tells(x, 0, "2" + "1y"), -4);
        due("takes", x.takes(0, 1), 0);
        due("things(0, 1)", x.things(0, 1), 0);
        due("empty", x.empty(2), 1);
        due("takes", x.takes(2, 0), 1);
        due("takes", x.takes(2, 1), 0);
        due("empty", x.empty(2), 0);
        due("leans", x.leans(2), 0);
    }

    // ---- IV

    private static void order() {
        sentence("IV", "ORDER of THINGS of one size of an EXPR (a KIND), a TERM, a PART; RANK: the number there, from 0.");
        GrownKinds x = Kit.of("grammar most 2 a;a=row (atom x or atom y);");
        spelled(x, 0, 1, "[0x]", "[1y]");
        spelled(x, 0, 2, "[0x0x]", "[0x1y]", "[1y0x]", "[1y1y]");
        due("the last RANK", x.length(0, 2, 3), 6);
        due("behind the last RANK", x.length(0, 2, 4), -2);
        due("ahead of RANK 0", x.length(0, 2, -1), -2);

        sentence("IV", "EXPR: by TERMS.");
        x = Kit.of("grammar most 1 a;a=atom z or (atom y or atom x) or atom a;");
        spelled(x, 0, 1, "0z", "10y", "11x", "2a");
        due("takes", x.takes(0, 1), 2);
        spelled(x, 0, 1, "0z", "2a");

        sentence("IV", "TERM: by the size of the THING of its first PART, the least first, then by its RANK there,"
            + " then by the second one likewise, and so on.");
        x = Kit.of("grammar most 2 a b;a=row 2 atom x or atom y or unit or atom z or unit;b=a with a with a;");
        due("of size 0", x.things(1, 0), 8);
        spelled(x, 1, 0, "2-2-2-", "2-2-4-", "2-4-2-", "2-4-4-", "4-2-2-", "4-2-4-", "4-4-2-", "4-4-4-");
        String[] first = {"2-2-1y", "2-2-3z", "2-4-1y", "2-4-3z", "2-1y2-", "2-1y4-", "2-3z2-", "2-3z4-", "4-2-1y"};
        for (int rank = 0; rank < first.length; rank++) {
            holds("1, 1, " + rank + " is " + first[rank], Kit.spelled(x, 1, 1, rank).equals(first[rank]));
        }
        holds("the last one of size 2", Kit.spelled(x, 1, 2, (int) x.things(1, 2) - 1).equals("0[xx]4-4-"));
    }

    private static void orderOfSequences() {
        sentence("IV", "row: likewise from its first THING on.");
        String a = "grammar most 4 a b;a=atom x with atom x or atom z or atom y;";
        spelled(Kit.of(a + "b=row a;"), 1, 2, "[1z1z]", "[1z2y]", "[2y1z]", "[2y2y]", "[0xx]");
        spelled(Kit.of(a + "b=row 2 a;"), 1, 3, "[1z0xx]", "[2y0xx]", "[0xx1z]", "[0xx2y]");

        sentence("IV", "bag, set: likewise, as a row from its greatest THING to its least (by size, then by RANK).");
        spelled(Kit.of(a + "b=bag a;"), 1, 2, "{1z1z}", "{2y1z}", "{2y2y}", "{0xx}");
        spelled(Kit.of(a + "b=bag a;"), 1, 3, "{1z1z1z}", "{2y1z1z}", "{2y2y1z}", "{2y2y2y}", "{0xx1z}", "{0xx2y}");
        spelled(Kit.of(a + "b=bag 2 a;"), 1, 2, "{1z1z}", "{2y1z}", "{2y2y}");
        spelled(Kit.of(a + "b=set a;"), 1, 4, "<0xx2y1z>");
        spelled(Kit.of(a + "b=set a;"), 1, 2, "<2y1z>", "<0xx>");
        spelled(Kit.of(a + "b=set 2 a;"), 1, 3, "<0xx1z>", "<0xx2y>");

        sentence("IV", "ring: likewise, as the row that is first of all those that begin somewhere in it.");
        spelled(Kit.of(a + "b=ring a;"), 1, 2, "(1z1z)", "(1z2y)", "(2y2y)", "(0xx)");
        spelled(Kit.of(a + "b=ring a;"), 1, 3, "(1z1z1z)", "(1z1z2y)", "(1z2y2y)", "(1z0xx)", "(2y2y2y)", "(2y0xx)");
        spelled(Kit.of(a + "b=ring 3 a;"), 1, 4, "(1z1z0xx)", "(1z2y0xx)", "(1z0xx2y)", "(2y2y0xx)");
    }

    private static void cappedNumbers() {
        sentence("IV", "Numbers of THINGS (LABELLED ones) above 1,000,000,000,000 are told as that.");
        long cap = 1_000_000_000_000L;
        GrownKinds x = Kit.of("grammar most 1 u v w y z;u=" + TEN + ";v=u with u with u with u;w=v with v with v;y=w or unit;z=w with atom a;");
        due("things, just as many", x.things(2, 0), cap);
        due("labelled, just as many", x.labelled(2, 0), cap);
        due("things, one more", x.things(3, 0), cap);
        due("labelled, one more", x.labelled(3, 0), cap);
        due("takes", x.takes(0, 0), 9);
        due("things, fewer", x.things(2, 0), 282_429_536_481L);
        due("labelled, fewer", x.labelled(2, 0), 282_429_536_481L);
        due("anew", x.anew(), 1);
        due("by", x.by(3, 0, 0), cap);
        due("upto", x.upto(4, 1), cap);
        due("marked", x.marked(4, 1, 0, 1), cap);
        due("boxed", x.boxed(3, 0, 1), cap);
        due("without, one more", x.without(3, 1, 3, 0), cap);
        due("without, no more than one", x.without(3, 0, 3, 0), 1);
        // far above 2 to the 63
        x = Kit.of("grammar most 7 u v w y;u=unit or unit or unit or unit or unit or unit;v=u with u with u with u;w=v with v with v with v;"
            + "y=w or row (atom a with w) or ring (atom b with w);");
        for (int n = 0; n <= 7; n++) {
            due("things", x.things(3, n), cap);
            due("labelled", x.labelled(3, n), cap);
            due("upto", x.upto(3, n), cap);
            due("marked", x.marked(3, n, 0, n), cap);
            due("by", x.by(3, n, n == 0 ? 0 : 2), cap);
        }
        due("first", x.first(3, cap), 0);
        due("by none", x.by(3, 1, 0), 0);
        due("marked none", x.marked(3, 7, 0, 3), 0);
    }

    private static void listed() {
        sentence("IV", "LISTED: a KIND has at most 200 THINGS of that size.");
        GrownKinds x = Kit.of(BoundaryThings.TWO_HUNDRED);
        due("things: 200", x.things(0, 0), 200);
        due("length of one of 200", x.length(0, 0, 199), 10);
        due("deepest of 200", x.deepest(0, 0), 0);
        due("things: 201", x.things(1, 0), 201);
        due("length of one of 201", x.length(1, 0, 199), -3);
        due("deepest of 201", x.deepest(1, 0), -3);
        due("of another size", x.length(1, 1, 0), 2);
        for (String four : new String[] {"row", "bag", "set", "ring"}) {
            GrownKinds y = Kit.of("grammar most 1 a b c;b=(unit or unit) with (unit or unit) with (unit or unit) with c with c;"
                + "c=unit or unit or unit or unit or unit;a=" + four + " 1 (atom x with b);");
            due("200 of " + four, y.things(0, 1), 200);
            due("the last of 200 of " + four, y.length(0, 1, 199), 13);
            due("the last sign but one", y.sign(0, 1, 199, 10), '4');
        }
        due("takes one of them", x.takes(1, 1), 2);
        due("length of one of 200 then", x.length(1, 0, 199), 11);
        due("takes it back", x.undo(), 0);
        due("length of one of 201 again", x.length(1, 0, 199), -3);
    }

    // ---- V

    private static void labelled() {
        sentence("V", "LABELLED: the n atoms of a THING of size n have the numbers 1 .. n, each one.");
        GrownKinds x = Kit.of("grammar most 7 a b c;a=row atom x;b=bag atom x;c=unit or unit;");
        long[] factorial = {1, 1, 2, 6, 24, 120, 720, 5040};
        for (int n = 0; n <= 7; n++) {
            due("rows of size " + n, x.labelled(0, n), factorial[n]);
            due("rings of size " + n, Kit.of("grammar most 7 a;a=ring atom x;").labelled(0, n), n == 0 ? 0 : factorial[n - 1]);
            due("bags of size " + n, x.labelled(1, n), 1);
        }
        due("without atoms there is one way each", x.labelled(2, 0), 2);
        // of i and j atoms in bags the first has any i of the numbers
        for (int i = 0; i <= 7; i++) {
            for (int j = 0; i + j <= 7; j++) {
                String one = i == 0 ? "unit" : "bag " + i + " atom x";
                String other = j == 0 ? "unit" : "bag " + j + " atom x";
                GrownKinds y = Kit.of("grammar most 7 a;a=" + one + " with " + other + ";");
                due("labelled " + one + " with " + other, y.labelled(0, i + j), factorial[i + j] / factorial[i] / factorial[j]);
            }
        }

        sentence("V", "Two are alike only if they are with all numbers (in a set, too: THINGS like but for their numbers may stand in it"
            + " together here).");
        x = Kit.of("grammar most 7 a b c d;a=set 2 atom x;b=bag 2 atom x;c=set row 1 atom x;d=set 2 row 2 atom x;");
        due("things: a set of two alike", x.things(0, 2), 0);
        due("labelled: a set of two with other numbers", x.labelled(0, 2), 1);
        due("labelled: a bag of two", x.labelled(1, 2), 1);
        due("things: a set of seven alike", x.things(2, 7), 0);
        due("labelled: a set of seven", x.labelled(2, 7), 1);
        due("labelled: a set of two rows of two", x.labelled(3, 4), 12);
    }

    private static void symmetries() {
        sentence("V", "SYMMETRIES of a THING: in how many ways like THINGS in bags change places, times in how many ways rings turn"
            + " (also not at all) so that they are as before, of all bags and rings in it.");
        GrownKinds x = Kit.of("grammar most 7 a b c;a=atom x or atom y;b=bag a;c=ring a;");
        due("a bag of none", x.symmetries(1, 0, 0), 1);
        due("a bag of one", x.symmetries(1, 1, 0), 1);
        due("a bag of seven alike", x.symmetries(1, 7, 0), 5040);
        due("a bag of six and one", x.symmetries(1, 7, 1), 720);
        due("a bag of three and four", x.symmetries(1, 7, 3), 144);
        due("a ring of one", x.symmetries(2, 1, 0), 1);
        due("a ring of seven alike", x.symmetries(2, 7, 0), 7);
        due("a ring of six and one", x.symmetries(2, 7, 1), 1);
        due("a ring of six that turns by three", x.symmetries(2, 6, Kit.tells(x, 2, "(0x0x1y0x0x1y)")), 2);
        due("a ring of six that turns by two", x.symmetries(2, 6, Kit.tells(x, 2, "(0x1y0x1y0x1y)")), 3);
        x = Kit.of("grammar most 7 a b c d e f;a=atom x or atom y;b=bag a;c=ring a;d=ring bag 3 a;e=bag 2 c;f=row 2 bag 2 a or bag 2 a with c;");
        due("two like bags of three alike in a ring", x.symmetries(3, 6, Kit.tells(x, 3, "({0x0x0x}{0x0x0x})")), 2 * 6 * 6);
        due("two other bags in a ring", x.symmetries(3, 6, Kit.tells(x, 3, "({0x0x0x}{1y1y1y})")), 6 * 6);
        due("two like rings of three alike in a bag", x.symmetries(4, 6, Kit.tells(x, 4, "{(0x0x0x)(0x0x0x)}")), 2 * 3 * 3);
        due("two rings in a bag", x.symmetries(4, 6, Kit.tells(x, 4, "{(1y1y1y)(0x0x0x)}")), 3 * 3);
        due("two like bags in a row", x.symmetries(5, 4, Kit.tells(x, 5, "0[{0x0x}{0x0x}]")), 2 * 2);
        due("a bag and a ring", x.symmetries(5, 6, Kit.tells(x, 5, "1{1y1y}(0x0x0x0x)")), 2 * 4);
        x = Kit.of("grammar most 7 a b;a=row bag 2 atom x or set ring atom x;b=unit with atom x with atom x;");
        due("a row of like ones", x.symmetries(0, 4, 0), 4);
        due("a set", x.symmetries(0, 4, Kit.tells(x, 0, "1<(xxx)(x)>")), 3);
        due("neither bag nor ring", x.symmetries(1, 2, 0), 1);

        sentence("V", "It is LABELLED in n! ways by its SYMMETRIES.");
        x = Kit.of("grammar most 7 a b c;a=bag atom x;b=row atom x;c=ring atom x;");
        int ways = 1;
        for (int n = 0; n <= 7; n++) {
            due("a bag of " + n, x.labels(0, n, 0), 1);
            due("a row of " + n, x.labels(1, n, 0), n == 0 ? 1 : ways * n);
            if (n > 0) {
                due("a ring of " + n, x.labels(2, n, 0), ways);
                ways *= n;
            }
        }
    }

    // ---- VI

    private static void spelled() {
        sentence("VI", "SPELLED: an atom by its letter, a unit by -,");
        spelled(Kit.of("grammar most 1 a;a=atom a;"), 0, 1, "a");
        spelled(Kit.of("grammar most 1 a;a=atom z;"), 0, 1, "z");
        spelled(Kit.of("grammar most 1 a;a=unit;"), 0, 0, "-");

        sentence("VI", "a THING of an EXPR of two or more TERMS (OFF ones, too) by the digit of its TERM and then as of this,");
        GrownKinds x = Kit.of("grammar most 0 a b;a=" + TEN + ";b=(unit) with (unit or unit);");
        spelled(x, 0, 0, "0-", "1-", "2-", "3-", "4-", "5-", "6-", "7-", "8-", "9-");
        spelled(x, 1, 0, "-0-", "-1-");
        for (int term = 0; term < 9; term++) {
            due("takes", x.takes(0, term), 9 - term);
        }
        spelled(x, 0, 0, "9-");
        x = Kit.of("grammar most 0 a;a=unit or unit;");
        spelled(x, 0, 0, "0-", "1-");
        due("takes", x.takes(0, 0), 1);
        spelled(x, 0, 0, "1-");

        sentence("VI", "of a TERM one behind the other, a row between [ and ], a bag between { and }, a set between < and >,"
            + " a ring between ( and ), THINGS in them in the order of IV.");
        x = Kit.of("grammar most 4 a b c;a=atom x with unit with atom y;b=row c with bag c with set c;c=atom z;");
        spelled(x, 0, 2, "x-y");
        spelled(x, 1, 0, "[]{}<>");
        spelled(x, 1, 1, "[]{}<z>", "[]{z}<>", "[z]{}<>");
        spelled(Kit.of("grammar most 1 a;a=ring atom q;"), 0, 1, "(q)");
        x = Kit.of("grammar most 3 a b;a=atom x or atom y or row 2 atom z;b=row 2 a with unit or bag 2 a or set 2 a or ring 2 a;");
        spelled(x, 1, 3, "0[0x2[zz]]-", "0[1y2[zz]]-", "0[2[zz]0x]-", "0[2[zz]1y]-", "1{2[zz]0x}", "1{2[zz]1y}",
            "2<2[zz]0x>", "2<2[zz]1y>", "3(0x2[zz])", "3(1y2[zz])");
    }

    // ---- VII

    private static void boxes() {
        sentence("VII", "BOX of a KIND, low .. high: its THINGS of these sizes, numbered from 0 by size, then by RANK.");
        GrownKinds x = Kit.of("grammar most 3 a;a=row (atom x or atom y);");
        int[] sizes = {0, 1, 1, 2, 2, 2, 2, 3, 3, 3, 3, 3, 3, 3, 3};
        int[] ranks = {0, 0, 1, 0, 1, 2, 3, 0, 1, 2, 3, 4, 5, 6, 7};
        for (int number = 0; number < 15; number++) {
            due("drawn size of " + number, x.drawn(0, 0, 3, number, 0), sizes[number]);
            due("drawn rank of " + number, x.drawn(0, 0, 3, number, 1), ranks[number]);
        }
        due("from another size on", x.drawn(0, 1, 2, 2, 0), 2);
        due("from another size on", x.drawn(0, 1, 2, 2, 1), 0);
        x = Kit.of("grammar most 5 a;a=row 2 atom x or row 5 (atom x or atom y);");
        due("sizes without THINGS between", x.drawn(0, 0, 5, 1, 0), 5);
        due("sizes without THINGS between", x.drawn(0, 0, 5, 1, 1), 0);

        sentence("VII", "b: the least number so that 2 to the b is as many as it has, or more.");
        x = Kit.of("grammar most 7 a b c d;a=bag (atom x or atom y);b=a with unit;c=bag atom x;d=row (atom x or atom y);");
        int[] bits = {0, 1, 2, 2, 3, 3, 3, 3};
        for (int n = 0; n <= 7; n++) {
            due("of " + (n + 1), x.bits(0, n, n), bits[n]);
            due("of 2 to the " + n, x.bits(3, n, n), n);
            due("of " + (n + 1) + " by sizes", x.bits(2, 0, n), bits[n]);
        }
        due("of 2 + 3 + 4", x.bits(0, 1, 3), 4);

        sentence("VII", "DRAWN by a word (0 .. 1,073,741,823, thirty bits):");
        due("word 0", x.drawn(3, 2, 2, 0, 1), 0);
        due("word 1,073,741,823", x.drawn(3, 2, 2, 1_073_741_823, 1), 3);
        due("word 1,073,741,824", x.drawn(3, 2, 2, 1_073_741_824, 1), -2);
        due("word -1", x.drawn(3, 2, 2, -1, 1), -2);
        due("word MAX", x.drawn(3, 2, 2, MAX, 1), -2);
        due("word MIN", x.drawn(3, 2, 2, MIN, 1), -2);

        sentence("VII", "groups of b bits of it, the lowest first, 30 / b (cut) groups; the first one that is a number of the BOX (b 0: 0).");
        // three THINGS: fifteen groups of two bits, of which 3 is no number
        due("the first group", x.drawn(0, 2, 2, 0b1101, 1), 1);
        due("the second group", x.drawn(0, 2, 2, 0b1011, 1), 2);
        for (int group = 0; group < 15; group++) {
            int word = 1_073_741_823 & ~(3 << 2 * group);
            due("group " + group, x.drawn(0, 2, 2, word, 1), 0);
        }
        due("no group", x.drawn(0, 2, 2, 1_073_741_823, 1), -1);
        // 129 THINGS: three groups of eight bits; the six bits above them are none
        GrownKinds y = Kit.of("grammar most 7 a;a=row 7 (atom x or atom y) or row 1 atom z;");
        due("b", y.bits(0, 0, 7), 8);
        due("the third group", y.drawn(0, 0, 7, 7 << 16 | 0xffff, 1), 6);
        due("no fourth group", y.drawn(0, 0, 7, 0xffffff, 0), -1);
        due("128 is one", y.drawn(0, 0, 7, 0xff80, 1), 127);
        due("129 is none", y.drawn(0, 0, 7, 0xffff81, 1), -1);
        // a million and 24 more groups of twenty bits than one can't be
        y = Kit.of("grammar most 0 u v;u=" + TEN + ";v=u with u with u with u with u with u;");
        due("999,999", y.drawn(1, 0, 0, 999_999, 1), 999_999);
        due("1,000,000", y.drawn(1, 0, 0, 1_000_000, 1), -1);
        due("no second group of twenty bits", y.drawn(1, 0, 0, 1 << 20 | 1_000_000, 1), -1);
        due("bits above them are none", y.drawn(1, 0, 0, 1_023 << 20 | 5, 1), 5);
        for (int word : new int[] {0, 1, 77, 1_073_741_823}) {
            due("b 0", x.drawn(2, 5, 5, word, 1), 0);
            due("b 0", x.drawn(2, 5, 5, word, 0), 5);
        }
    }

    private static void deals() {
        sentence("VII", "DEAL: x is the seed modulo 2 to the b, then 5 x + 3 modulo that, and so on, 2 to the b of them;"
            + " those that are numbers of the BOX are dealt.");
        GrownKinds x = Kit.of("grammar most 7 a b;a=bag (atom x or atom y);b=bag atom x;");
        for (int n = 0; n <= 7; n++) {
            for (int seed : new int[] {0, 1, 5, 7, 8, 1_999_999_999, 2_000_000_000}) {
                int many = n + 1;
                int b = many == 1 ? 0 : many == 2 ? 1 : many <= 4 ? 2 : 3;
                due("deal", x.deal(0, n, n, seed), many);
                long at = seed % (1 << b);
                for (int step = 0; step < 1 << b; step++) {
                    if (at < many) {
                        due("dealt of seed " + seed, x.dealt(), 10_000 * n + at);
                    }
                    at = (5 * at + 3) % (1 << b);
                }
                due("dealt behind the last", x.dealt(), -1);
            }
        }
        due("deal by sizes", x.deal(1, 0, 4, 5), 5);
        for (int due : new int[] {20_000, 10_000, 0, 30_000, 40_000, -1}) {
            // 5, 4, 7, 6, 1, 0, 3, 2 modulo 8: 4, 1, 0, 3, 2 are numbers of the BOX
            due("dealt", x.dealt(), due == 20_000 ? 40_000 : due == 40_000 ? 20_000 : due);
        }
    }

    private static GrownKinds dealing() {
        GrownKinds x = Kit.of("grammar most 3 a;a=row atom x or row atom y;");
        due("deal", x.deal(0, 0, 3, 0), 8);
        due("dealt", x.dealt(), 0);
        return x;
    }

    private static void gone(String by, GrownKinds x) {
        due("left behind " + by, x.left(), 0);
        due("dealt behind " + by, x.dealt(), -1);
    }

    private static void endOfDeal() {
        sentence("VII", "It ends by grammar() (not with a FAULT),");
        GrownKinds x = dealing();
        due("grammar() with a FAULT", Kit.grammar(x, "grammar most 3 a;a=a;"), -4);
        due("left goes on", x.left(), 7);
        due("grammar() with a FAULT", Kit.grammar(x, "?"), -4);
        due("dealt goes on", x.dealt(), 10_001);
        due("grammar() of the same", Kit.grammar(x, "grammar most 3 a;a=row atom x or row atom y;"), 2);
        gone("grammar()", x);
        x = dealing();
        due("grammar() of an empty TAPE", Kit.grammar(x, ""), 0);
        gone("grammar() of an empty TAPE", x);

        sentence("VII", "by acts that are done, taken back,");
        x = dealing();
        due("takes, not done", x.takes(0, 2), -2);
        due("undo, not done", x.undo(), -5);
        due("left goes on", x.left(), 7);
        due("takes", x.takes(0, 1), 1);
        gone("takes", x);
        due("deal", x.deal(0, 0, 3, 0), 4);
        due("takes, not done", x.takes(0, 1), -5);
        due("left goes on", x.left(), 4);
        due("undo", x.undo(), 0);
        gone("undo", x);

        sentence("VII", "by anew() (without acts, too).");
        x = dealing();
        due("anew without acts", x.anew(), 0);
        gone("anew without acts", x);
        due("takes", x.takes(0, 1), 1);
        due("deal", x.deal(0, 0, 3, 0), 4);
        due("anew with an act", x.anew(), 1);
        gone("anew with an act", x);
    }
}
